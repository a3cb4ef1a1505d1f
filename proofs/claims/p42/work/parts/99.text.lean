/-! texts: what is read, character by character -/
def gG (k : Nat) : Nat := if k = 0 then 95 else if k = 1 then 96 else 50
def gS (k : Nat) : Nat := if k = 0 then 45 else if k = 1 then 42 else 59
abbrev PS : Type := Nat × Option Nat × (Nat → Nat)
def stp (s : PS) (c : Nat) : Option PS :=
  if 48 ≤ c ∧ c ≤ 57 then
    (match s.2.1 with
    | none => if 0 < c - 48 ∨ s.1 % 3 = 0 then some (s.1, some (c - 48), s.2.2) else none
    | some v => if v ≠ 0 ∧ 10 * v + (c - 48) ≤ gG (s.1 % 3) then some (s.1, some (10 * v + (c - 48)), s.2.2) else none)
  else
    (match s.2.1 with
    | none => none
    | some v => if c = gS (s.1 % 3) then some (s.1 + 1, none, upN s.2.2 s.1 v) else none)
def runT (t : Nat → Nat) : Nat → Option PS
  | 0 => some (0, none, fun _ => 0)
  | p + 1 => (runT t p).bind (fun s => stp s (t p))
theorem gG_le (k : Nat) : gG k ≤ 96 := by unfold gG; split <;> (try split) <;> omega
theorem gG_ge (k : Nat) : 9 ≤ gG k := by unfold gG; split <;> (try split) <;> omega
/-- the state's numbers are in their ranges -/
def POK (s : PS) : Prop := (∀ v, s.2.1 = some v → v ≤ gG (s.1 % 3) ∧ (s.1 % 3 ≠ 0 → 1 ≤ v)) ∧ ∀ j, j < s.1 → s.2.2 j ≤ gG (j % 3) ∧ (j % 3 ≠ 0 → 1 ≤ s.2.2 j)
theorem stp_ok {s s' : PS} {c : Nat} (h : POK s) (e : stp s c = some s') : POK s' ∧ s'.1 ≤ s.1 + 1 := by
  obtain ⟨f, o, N⟩ := s
  obtain ⟨h1, h2⟩ := h
  have hg := gG_ge (f % 3)
  unfold stp at e
  by_cases hc : 48 ≤ c ∧ c ≤ 57
  · rw [if_pos hc] at e
    cases o with
    | none =>
      dsimp only at e
      by_cases hd : 0 < c - 48 ∨ f % 3 = 0
      · rw [if_pos hd] at e
        cases e
        refine ⟨⟨fun v hv => ?_, h2⟩, Nat.le_succ f⟩
        cases hv
        exact ⟨by show c - 48 ≤ gG (f % 3); omega, fun hf => by show 1 ≤ c - 48; have hf : f % 3 ≠ 0 := hf; omega⟩
      · rw [if_neg hd] at e; cases e
    | some v =>
      dsimp only at e
      by_cases hd : v ≠ 0 ∧ 10 * v + (c - 48) ≤ gG (f % 3)
      · rw [if_pos hd] at e
        cases e
        refine ⟨⟨fun w hw => ?_, h2⟩, Nat.le_succ f⟩
        cases hw
        exact ⟨hd.2, fun _ => by show 1 ≤ 10 * v + (c - 48); omega⟩
      · rw [if_neg hd] at e; cases e
  · rw [if_neg hc] at e
    cases o with
    | none => cases e
    | some v =>
      dsimp only at e
      by_cases hd : c = gS (f % 3)
      · rw [if_pos hd] at e
        cases e
        refine ⟨⟨fun w hw => (by cases hw), fun j hj => ?_⟩, Nat.le_refl _⟩
        show upN N f v j ≤ gG (j % 3) ∧ (j % 3 ≠ 0 → 1 ≤ upN N f v j)
        have hj : j < f + 1 := hj
        by_cases hjf : j = f
        · subst hjf; rw [upN_s]; exact h1 v rfl
        · rw [upN_n hjf]; exact h2 j (by show j < f; omega)
      · rw [if_neg hd] at e; cases e
theorem runT_ok (t : Nat → Nat) : ∀ p s, runT t p = some s → POK s ∧ s.1 ≤ p
  | 0, s, e => by
    cases e
    exact ⟨⟨fun v hv => (by cases hv), fun j hj => absurd hj (Nat.not_lt_zero j)⟩, Nat.le_refl 0⟩
  | p + 1, s, e => by
    cases hr : runT t p with
    | none => rw [runT, hr] at e; cases e
    | some s0 =>
      rw [runT, hr] at e
      have e : stp s0 (t p) = some s := e
      have h0 := runT_ok t p s0 hr
      have h1 := stp_ok h0.1 e
      exact ⟨h1.1, by have := h0.2; have := h1.2; omega⟩
theorem runT_s {t : Nat → Nat} {p : Nat} {s : PS} (h : runT t p = some s) : runT t (p + 1) = stp s (t p) := by
  rw [runT, h]; rfl
theorem runT_none {t : Nat → Nat} {p : Nat} (h : runT t p = none) : ∀ m, runT t (p + m) = none
  | 0 => h
  | m + 1 => by
    show runT t (p + m + 1) = none
    rw [runT, runT_none h m]; rfl
/-- the place at which reading comes to its end -/
def stpAt (t : Nat → Nat) (n q : Nat) : Prop := ∃ s, runT t q = some s ∧ ((q < n ∧ stp s (t q) = none) ∨ q = n)
theorem stpAt_un {t : Nat → Nat} {n a b : Nat} (ha : stpAt t n a) (hb : stpAt t n b) : a = b := by
  have key : ∀ {a b : Nat}, stpAt t n a → stpAt t n b → ¬ a < b := by
    rintro a b ⟨s, h1, h2⟩ ⟨s', h3, h4⟩ hlt
    have hbn : b ≤ n := by rcases h4 with h | h <;> omega
    rcases h2 with ⟨h5, h6⟩ | h5
    · have h7 : runT t (a + 1) = none := by rw [runT_s h1]; exact h6
      have h8 := runT_none h7 (b - (a + 1))
      rw [show a + 1 + (b - (a + 1)) = b by omega, h3] at h8
      cases h8
    · omega
  have k1 := key ha hb
  have k2 := key hb ha
  omega
/-- reading fails at q -/
def flO (t : Nat → Nat) (n q : Nat) : Prop := ∃ s, runT t q = some s ∧ ((q < n ∧ stp s (t q) = none) ∨ (q = n ∧ (s.2.1 = none ∨ s.1 % 3 ≠ 2)))
/-- the first n characters are a text of m parts with the numbers M -/
def tlO (t : Nat → Nat) (n m : Nat) (M : Nat → Nat) : Prop := ∃ f v N, runT t n = some (f, some v, N) ∧ f + 1 = 3 * m ∧ M = upN N f v
theorem flO_stp {t : Nat → Nat} {n q : Nat} (h : flO t n q) : stpAt t n q := by
  obtain ⟨s, h1, h2⟩ := h
  exact ⟨s, h1, h2.imp id (fun h => h.1)⟩
theorem tlO_stp {t : Nat → Nat} {n m : Nat} {M : Nat → Nat} (h : tlO t n m M) : stpAt t n n := by
  obtain ⟨f, v, N, h1, -⟩ := h
  exact ⟨_, h1, Or.inr rfl⟩
theorem flO_tlO {t : Nat → Nat} {n q m : Nat} {M : Nat → Nat} (h : flO t n q) (h2 : tlO t n m M) : False := by
  have e := stpAt_un (flO_stp h) (tlO_stp h2)
  subst e
  obtain ⟨s, h1, h3⟩ := h
  obtain ⟨f, v, N, g1, g2, -⟩ := h2
  rw [h1] at g1
  cases g1
  rcases h3 with ⟨h4, -⟩ | ⟨-, h5 | h5⟩
  · omega
  · cases h5
  · have h5 : f % 3 ≠ 2 := h5
    omega
theorem tlO_un {t : Nat → Nat} {n m m' : Nat} {M M' : Nat → Nat} (h : tlO t n m M) (h2 : tlO t n m' M') : m = m' ∧ M = M' := by
  obtain ⟨f, v, N, h1, h3, h4⟩ := h
  obtain ⟨f', v', N', g1, g3, g4⟩ := h2
  rw [h1] at g1
  cases g1
  exact ⟨by omega, by rw [h4, g4]⟩
theorem tlO_ok {t : Nat → Nat} {n m : Nat} {M : Nat → Nat} (h : tlO t n m M) : (∀ j, j < 3 * m → M j ≤ gG (j % 3) ∧ (j % 3 ≠ 0 → 1 ≤ M j)) ∧ 3 * m ≤ n + 1 ∧ 1 ≤ m := by
  obtain ⟨f, v, N, h1, h3, rfl⟩ := h
  obtain ⟨⟨k1, k2⟩, k3⟩ := runT_ok t n _ h1
  have k3 : f ≤ n := k3
  refine ⟨fun j hj => ?_, by omega, by omega⟩
  by_cases hjf : j = f
  · subst hjf; rw [upN_s]; exact k1 v rfl
  · rw [upN_n hjf]; exact k2 j (by show j < f; omega)
/-! the class reads -/
/-- the class's state of reading -/
def PSC (s : PS) (tn : Nat → Int32) (tf tv : Int32) : Prop := tf = nI s.1 ∧ (match s.2.1 with | none => tv = -1 | some v => tv = nI v) ∧ ∀ j, j < s.1 → tn j = nI (s.2.2 j)
theorem z_48 : (48 : Int32) = nI 48 := rfl
theorem z_57 : (57 : Int32) = nI 57 := rfl
theorem gGr_n {k : Nat} (hk : k < 3) : gGr k = nI (gG k) := by
  rcases (show k = 0 ∨ k = 1 ∨ k = 2 by omega) with rfl | rfl | rfl <;> rfl
theorem gSg_n {k : Nat} (hk : k < 3) : gSg k = nI (gS k) := by
  rcases (show k = 0 ∨ k = 1 ∨ k = 2 by omega) with rfl | rfl | rfl <;> rfl
theorem gS_le (k : Nat) : gS k ≤ 59 := by unfold gS; split <;> (try split) <;> omega
theorem s_kind {f : Nat} (hf : f < 1000) {Q : Int32 → Prop} (h : Q (nI (f % 3))) : wn_X4_kind (nI f) Q := by
  unfold wn_X4_kind
  rw [z_3, pk_rem (by omega) (by decide) (by decide)]
  exact h
theorem s_takes {s : PS} {tn : Nat → Int32} {tf tv : Int32} (hs : PSC s tn tf tv) (ok : POK s) (hf : s.1 < 60) {c : Nat} (hc : c ≤ 126) {Q : Int32 → (Nat → Int32) → Int32 → Int32 → Prop}
    (h1 : ∀ s' tn' tf' tv', stp s c = some s' → PSC s' tn' tf' tv' → Q 1 tn' tf' tv') (h0 : stp s c = none → ∀ tn' tf' tv', Q 0 tn' tf' tv') : wn_X4_takes tn tf tv (nI c) Q := by
  obtain ⟨f, o, N⟩ := s
  obtain ⟨e1, e2, e3⟩ := hs
  have e1 : tf = nI f := e1
  have e3 : ∀ j, j < f → tn j = nI (N j) := e3
  have hf : f < 60 := hf
  subst e1
  have hm3 : f % 3 < 3 := Nat.mod_lt _ (by decide)
  have hgs := gS_le (f % 3)
  have hgg := gG_le (f % 3)
  have sign : ¬ (48 ≤ c ∧ c ≤ 57) → wj_n_X4_takes_21 Q tn (nI f) tv (nI c) := by
    intro hnd
    unfold wj_n_X4_takes_21
    cases o with
    | none =>
      have e2 : tv = -1 := e2
      subst e2
      exact ⟨fun _ => h0 (by unfold stp; rw [if_neg hnd]) _ _ _, fun hx => absurd rfl hx⟩
    | some v =>
      have e2 : tv = nI v := e2
      subst e2
      have hv := (ok.1 v rfl).1
      have hv : v ≤ gG (f % 3) := hv
      refine ⟨fun hx => absurd hx (nI_neg1 (by omega)), fun _ => s_kind (by omega) ⟨z_in (by omega) (by decide), ?_⟩⟩
      rw [z_cl (n := f % 3) (by omega), gSg_n hm3, z_eq (by omega) (by omega)]
      refine ⟨fun he => ?_, fun he => h0 (by unfold stp; rw [if_neg hnd]; exact if_neg he) _ _ _⟩
      unfold wn_X4_finishNumber wj_n_X4_finishNumber_35
      have e60 : ((60 : Int32) ≤ nI f) = (60 ≤ f) := by rw [show (60 : Int32) = nI 60 from rfl, z_le (by decide) (by omega)]
      rw [e60]
      refine ⟨fun hx => absurd hx (by omega), fun _ => ?_⟩
      rw [z_cl (n := f) (by omega), nI_1]
      refine ⟨z_in (by omega) (by decide), h1 (f + 1, none, upN N f v) _ _ _ (by unfold stp; rw [if_neg hnd]; exact if_pos he) ⟨rfl, rfl, fun j hj => ?_⟩⟩
      have hj : j < f + 1 := hj
      show upd tn f (nI v) j = nI (upN N f v j)
      by_cases hjf : j = f
      · subst hjf; rw [pk_us, upN_s]
      · rw [pk_un hjf, upN_n hjf]; exact e3 j (by omega)
  unfold wn_X4_takes
  rw [z_48, z_57, z_lt (by omega) (by omega), z_lt (by omega) (by omega)]
  refine ⟨fun hx => sign (by omega), fun hx => ⟨fun hy => sign (by omega), fun hy => ?_⟩⟩
  have hd : 48 ≤ c ∧ c ≤ 57 := by omega
  rw [z_sub (by omega)]
  unfold wn_X4_takesDigit
  have e0 : (0 < nI (c - 48)) = (0 < c - 48) := by rw [z_0, z_lt (by decide) (by omega)]
  cases o with
  | none =>
    have e2 : tv = -1 := e2
    subst e2
    rw [e0]
    refine ⟨fun hx => absurd rfl hx, fun _ => ⟨fun hp => ?_, fun hp => s_kind (by omega) ?_⟩⟩
    · exact h1 (f, some (c - 48), N) _ _ _ (by unfold stp; rw [if_pos hd]; exact if_pos (Or.inl hp)) ⟨rfl, rfl, e3⟩
    · have e4 : (nI (f % 3) = (0 : Int32)) = (f % 3 = 0) := by rw [z_0, z_eq (by omega) (by decide)]
      rw [e4]
      refine ⟨fun hk => h0 (by unfold stp; rw [if_pos hd]; exact if_neg (fun hh => by rcases hh with hh | hh; exact hp hh; exact hk hh)) _ _ _, fun hk => ?_⟩
      exact h1 (f, some (c - 48), N) _ _ _ (by unfold stp; rw [if_pos hd]; exact if_pos (Or.inr hk)) ⟨rfl, rfl, e3⟩
  | some v =>
    have e2 : tv = nI v := e2
    subst e2
    have hv := (ok.1 v rfl).1
    have hv : v ≤ gG (f % 3) := hv
    have e4 : (nI v = (0 : Int32)) = (v = 0) := by rw [z_0, z_eq (by omega) (by decide)]
    have e5 : ((10 : Int32) * nI v) + nI (c - 48) = nI (10 * v + (c - 48)) := by rw [z_10, pk_mul, nI_add]
    unfold wj_n_X4_takesDigit_42
    rw [e4, e5]
    refine ⟨fun _ => ⟨fun hv0 => ⟨fun hx => absurd rfl hx, fun _ => s_kind (by omega) ⟨z_in (by omega) (by decide), ?_⟩⟩, fun hv0 => ⟨fun _ => ?_, fun hx => absurd hx (by decide)⟩⟩, fun hx => absurd hx (nI_neg1 (by omega))⟩
    · rw [z_cl (n := f % 3) (by omega), gGr_n hm3, z_lt (by omega) (by omega)]
      refine ⟨fun hlt => h0 (by unfold stp; rw [if_pos hd]; exact if_neg (fun hh => by have hh : 10 * v + (c - 48) ≤ gG (f % 3) := hh.2; omega)) _ _ _, fun hlt => ?_⟩
      exact h1 (f, some (10 * v + (c - 48)), N) _ _ _ (by unfold stp; rw [if_pos hd]; exact if_pos ⟨hv0, by show 10 * v + (c - 48) ≤ gG (f % 3); omega⟩) ⟨rfl, rfl, e3⟩
    · exact h0 (by unfold stp; rw [if_pos hd]; exact if_neg (fun hh => hh.1 hv0)) _ _ _
section
variable {n : Nat} {t : Nat → Nat} {tc : Nat → Int32} {tl : Int32}
theorem s_scan (ht : TC n t tc tl) (hok : TOK n t) {tn : Nat → Int32} {tf tv : Int32} {Q : Int32 → (Nat → Int32) → Int32 → Int32 → Prop}
    (h : ∀ q tn' tf' tv', stpAt t n q → (∀ s, q = n → runT t n = some s → PSC s tn' tf' tv') → Q (nI q) tn' tf' tv') : wn_X4_scan tc tl tn tf tv Q := by
  obtain ⟨rfl, hn, htc⟩ := ht
  have key : ∀ (m p : Nat) (s : PS) (tn : Nat → Int32) (tf tv : Int32), p + m = n → runT t p = some s → PSC s tn tf tv → wl_n_X4_scan_12 tc (nI n) Q (m + 1) tn tf tv (nI p) := by
    intro m
    induction m with
    | zero =>
      intro p s tn tf tv hp hr hs
      have e : p = n := by omega
      subst e
      rw [wl_n_X4_scan_12]
      exact ⟨fun _ => h p _ _ _ ⟨s, hr, Or.inr rfl⟩ (fun s' _ hr' => by rw [hr] at hr'; cases hr'; exact hs), fun hx => absurd (by rw [z_le (by omega) (by omega)]; omega) hx⟩
    | succ m ih =>
      intro p s tn tf tv hp hr hs
      have h2 := runT_ok t p s hr
      have hc := hok.2 p (by omega)
      rw [wl_n_X4_scan_12, z_le (by omega) (by omega), z_cl (n := p) (by omega), htc p (by omega), nI_1]
      refine ⟨fun hx => absurd hx (by omega), fun _ => ⟨z_in (by omega) (by decide), s_takes hs h2.1 (by omega) (by omega) (fun s' tn' tf' tv' e hs' => ?_) (fun e tn' tf' tv' => ?_)⟩⟩
      · exact ⟨fun _ => ih (p + 1) s' tn' tf' tv' (by omega) (by rw [runT_s hr]; exact e) hs', fun hx => absurd hx (by decide)⟩
      · exact ⟨fun hx => absurd rfl hx, fun _ => h p _ _ _ ⟨s, hr, Or.inl ⟨by omega, e⟩⟩ (fun s' hq => absurd hq (by omega))⟩
  exact ⟨n + 1, key n 0 _ _ _ _ (by omega) rfl ⟨rfl, rfl, fun j hj => absurd hj (Nat.not_lt_zero j)⟩⟩
theorem s_tells (ht : TC n t tc tl) (hok : TOK n t) {tn : Nat → Int32} {tf tv : Int32} {Q : Int32 → (Nat → Int32) → Int32 → Int32 → Prop}
    (h1 : ∀ m M tn' tv', tlO t n m M → (∀ j, j < 3 * m → tn' j = nI (M j)) → Q 1 tn' (nI (3 * m)) tv') (h0 : (¬ ∃ m M, tlO t n m M) → ∀ tn' tf' tv', Q 0 tn' tf' tv') : wn_X4_tellsRehearsals tc tl tn tf tv Q := by
  have hn := ht.2.1
  unfold wn_X4_tellsRehearsals
  refine s_scan ht hok (fun q tn' tf' tv' hq hs => ?_)
  have htl := ht.1
  have hqn : q ≤ n := by obtain ⟨s, -, h2⟩ := hq; rcases h2 with h | h <;> omega
  rw [htl, z_lt (by omega) (by omega)]
  refine ⟨fun hlt => h0 (fun ⟨m, M, hm⟩ => ?_) _ _ _, fun hlt => ?_⟩
  · have := stpAt_un hq (tlO_stp hm); omega
  · have e : q = n := by omega
    subst e
    obtain ⟨s, hr, -⟩ := hq
    obtain ⟨e1, e2, e3⟩ := hs s rfl hr
    have h2 := runT_ok t q s hr
    obtain ⟨f, o, N⟩ := s
    have e1 : tf' = nI f := e1
    have e3 : ∀ j, j < f → tn' j = nI (N j) := e3
    have hfq : f ≤ q := h2.2
    subst e1
    cases o with
    | none =>
      have e2 : tv' = -1 := e2
      subst e2
      refine ⟨fun _ => h0 (fun ⟨m, M, f', v', N', g1, _⟩ => ?_) _ _ _, fun hx => absurd rfl hx⟩
      rw [hr] at g1; cases g1
    | some v =>
      have e2 : tv' = nI v := e2
      subst e2
      have hv := (h2.1.1 v rfl).1
      have hv : v ≤ gG (f % 3) := hv
      have hgg := gG_le (f % 3)
      refine ⟨fun hx => absurd hx (nI_neg1 (by omega)), fun _ => s_kind (by omega) ?_⟩
      rw [z_2, z_eq (by omega) (by decide)]
      refine ⟨fun hk => ?_, fun hk => h0 (fun ⟨m, M, f', v', N', g1, g2, _⟩ => ?_) _ _ _⟩
      · unfold wn_X4_finishNumber wj_n_X4_finishNumber_35
        have hf60 : f < 60 := by omega
        have e60 : ((60 : Int32) ≤ nI f) = (60 ≤ f) := by rw [show (60 : Int32) = nI 60 from rfl, z_le (by decide) (by omega)]
        rw [e60]
        refine ⟨fun hx => absurd hx (by omega), fun _ => ?_⟩
        rw [z_cl (n := f) (by omega), nI_1]
        have e4 : f + 1 = 3 * ((f + 1) / 3) := by omega
        refine ⟨z_in (by omega) (by decide), ?_⟩
        rw [e4]
        refine h1 ((f + 1) / 3) (upN N f v) _ _ ⟨f, v, N, hr, e4, rfl⟩ (fun j hj => ?_)
        by_cases hjf : j = f
        · subst hjf; rw [pk_us, upN_s]
        · rw [pk_un hjf, upN_n hjf]; exact e3 j (by omega)
      · rw [hr] at g1
        cases g1
        omega
theorem s_parts {m : Nat} (hm : m < 1000) {Q : Int32 → Prop} (h : Q (nI m)) : wn_X4_parts (nI (3 * m)) Q := by
  unfold wn_X4_parts
  rw [z_3, pk_div (by omega) (by decide) (by decide), show 3 * m / 3 = m by omega]
  exact h
/-- each part ends behind its begin -/
def rngO (M : Nat → Nat) (m : Nat) : Prop := ∀ i, i < m → M (3 * i) < M (3 * i + 1)
theorem s_inB {M : Nat → Nat} {m i : Nat} (hm : 3 * m ≤ 61) (hi : i < m) {tn : Nat → Int32} (hN : ∀ j, j < 3 * m → tn j = nI (M j)) {Q : Int32 → Prop} (h : Q (nI (M (3 * i)))) : wn_X4_beginIn tn (nI i) Q := by
  unfold wn_X4_beginIn
  rw [z_3, pk_mul, z_0, nI_add, Nat.add_zero, z_cl (n := 3 * i) (by omega), hN _ (by omega)]
  exact ⟨z_in (by omega) (by decide), h⟩
theorem s_inE {M : Nat → Nat} {m i : Nat} (hm : 3 * m ≤ 61) (hi : i < m) {tn : Nat → Int32} (hN : ∀ j, j < 3 * m → tn j = nI (M j)) {Q : Int32 → Prop} (h : Q (nI (M (3 * i + 1)))) : wn_X4_endIn tn (nI i) Q := by
  unfold wn_X4_endIn
  rw [z_3, pk_mul, nI_1, z_cl (n := 3 * i + 1) (by omega), hN _ (by omega)]
  exact ⟨z_in (by omega) (by decide), h⟩
theorem s_inF {M : Nat → Nat} {m i : Nat} (hm : 3 * m ≤ 61) (hi : i < m) {tn : Nat → Int32} (hN : ∀ j, j < 3 * m → tn j = nI (M j)) {Q : Int32 → Prop} (h : Q (nI (M (3 * i + 2)))) : wn_X4_fameIn tn (nI i) Q := by
  unfold wn_X4_fameIn
  rw [z_3, pk_mul, z_2, nI_add, z_cl (n := 3 * i + 2) (by omega), hN _ (by omega)]
  exact ⟨z_in (by omega) (by decide), h⟩
theorem s_endsFit {M : Nat → Nat} {m : Nat} (hm : 3 * m ≤ 61) {tn : Nat → Int32} (hN : ∀ j, j < 3 * m → tn j = nI (M j)) (hM : ∀ j, j < 3 * m → M j ≤ 96) {Q : Int32 → Prop} (h1 : rngO M m → Q 1) (h0 : ¬ rngO M m → Q 0) : wn_X4_endsFit tn (nI (3 * m)) Q := by
  have key : ∀ k i : Nat, i + k = m → (∀ j, j < i → M (3 * j) < M (3 * j + 1)) → wl_n_X4_endsFit_2 tn (nI (3 * m)) Q (k + 1) (nI i) := by
    intro k
    induction k with
    | zero =>
      intro i hi hr
      rw [wl_n_X4_endsFit_2]
      refine s_parts (by omega) ?_
      rw [z_le (by omega) (by omega)]
      exact ⟨fun _ => h1 (fun j hj => hr j (by omega)), fun hx => absurd (by omega) hx⟩
    | succ k ih =>
      intro i hi hr
      have b1 := hM (3 * i) (by omega)
      have b2 := hM (3 * i + 1) (by omega)
      rw [wl_n_X4_endsFit_2]
      refine s_parts (by omega) ?_
      rw [z_le (by omega) (by omega), nI_1]
      refine ⟨fun hx => absurd hx (by omega), fun _ => s_inE hm (by omega) hN (s_inB hm (by omega) hN ?_)⟩
      rw [z_lt (by omega) (by omega)]
      refine ⟨fun hlt => ih (i + 1) (by omega) (fun j hj => ?_), fun hlt => h0 (fun hr2 => hlt (hr2 i (by omega)))⟩
      by_cases hji : j = i
      · subst hji; exact hlt
      · exact hr j (by omega)
  exact ⟨m + 1, key m 0 (by omega) (fun j hj => absurd hj (by omega))⟩
end
/-- a day with the first m of the parts M added -/
def addM (d : DV) (M : Nat → Nat) : Nat → DV
  | 0 => d
  | m + 1 => addD (addM d M m) (M (3 * m)) (M (3 * m + 1)) (M (3 * m + 2))
theorem addM_n (d : DV) (M : Nat → Nat) : ∀ m, vn (addM d M m) = vn d + m
  | 0 => rfl
  | m + 1 => by
    show vn (addM d M m) + 1 = _
    rw [addM_n d M m]; omega
theorem addM_congr {d : DV} {M N : Nat → Nat} : ∀ {m : Nat}, (∀ j, j < 3 * m → M j = N j) → addM d M m = addM d N m
  | 0, _ => rfl
  | m + 1, h => by
    unfold addM
    rw [addM_congr (m := m) (fun j hj => h j (by omega)), h (3 * m) (by omega), h (3 * m + 1) (by omega), h (3 * m + 2) (by omega)]
theorem addM_ok {d : DV} (ok : DOK d) {M : Nat → Nat} : ∀ {m : Nat}, vn d + m ≤ 14 → rngO M m → (∀ j, j < 3 * m → M j ≤ gG (j % 3) ∧ (j % 3 ≠ 0 → 1 ≤ M j)) → DOK (addM d M m)
  | 0, _, _, _ => ok
  | m + 1, hn, hr, hM => by
    have hn2 := addM_n d M m
    have b1 := hM (3 * m + 1) (by omega)
    have b2 := hM (3 * m + 2) (by omega)
    rw [show (3 * m + 1) % 3 = 1 by omega] at b1
    rw [show (3 * m + 2) % 3 = 2 by omega] at b2
    have b1 : M (3 * m + 1) ≤ 96 := b1.1
    have b3 : M (3 * m + 2) ≤ 50 := b2.1
    have b4 := b2.2 (by decide)
    exact (addM_ok ok (m := m) (by omega) (fun i hi => hr i (by omega)) (fun j hj => hM j (by omega))).add (by omega) (hr m (by omega)) b1 b4 b3
section
variable {S : List DV} {d : DV} {so sn : Int32} {sb se sf : Nat → Nat → Int32} {sc sp sk : Nat → Int32} {db de df : Nat → Int32} {dc dp dk : Int32} {n : Nat} {t : Nat → Nat} {tc : Nat → Int32} {tl : Int32}
theorem S_read (ok : DOK d) (hS : SC S so sn sb se sf sc sp sk) (hd : DC d db de df dc dp dk) (ht : TC n t tc tl) (hok : TOK n t) {tn : Nat → Int32} {tf tv : Int32}
    {Q : Int32 → (Nat → Int32) → (Nat → Int32) → (Nat → Int32) → Int32 → Int32 → Int32 → (Nat → Nat → Int32) → (Nat → Nat → Int32) → (Nat → Nat → Int32) → (Nat → Int32) → (Nat → Int32) → (Nat → Int32) → Int32 → (Nat → Int32) → Int32 → Int32 → Prop}
    {X : String → (Nat → Int32) → (Nat → Int32) → (Nat → Int32) → Int32 → Int32 → Int32 → (Nat → Nat → Int32) → (Nat → Nat → Int32) → (Nat → Nat → Int32) → (Nat → Int32) → (Nat → Int32) → (Nat → Int32) → Int32 → (Nat → Int32) → Int32 → Int32 → Prop}
    (hq : ∀ m M, tlO t n m M → rngO M m → vn d + m ≤ 14 → ∀ (so' sn' : Int32) (sb' se' sf' : Nat → Nat → Int32) (sc' sp' sk' : Nat → Int32) (db' de' df' : Nat → Int32) (dc' : Int32) (tn' : Nat → Int32) (tf' tv' : Int32), SC (psh S d) so' sn' sb' se' sf' sc' sp' sk' → DC (addM d M m) db' de' df' dc' dp dk → Q dc' db' de' df' dc' so' sn' sb' se' sf' sc' sp' sk' (0 : Int32) tn' tf' tv')
    (h1 : (¬ ∃ m M, tlO t n m M ∧ rngO M m) → ∀ (tn' : Nat → Int32) (tf' tv' : Int32), X "java/lang/IllegalArgumentException" db de df dc so sn sb se sf sc sp sk tl tn' tf' tv')
    (h2 : ∀ m M, tlO t n m M → rngO M m → ¬ vn d + m ≤ 14 → ∀ (tn' : Nat → Int32) (tf' tv' : Int32), X "java/lang/IllegalStateException" db de df dc so sn sb se sf sc sp sk tl tn' tf' tv') :
    wx_X5_read db de df dc dp dk so sn sb se sf sc sp sk tc tl tn tf tv Q X := by
  have hn := ok.1
  unfold wx_X5_read
  refine s_tells ht hok (fun m M tn1 tv1 hm hN => ?_) (fun hno tn1 tf1 tv1 => ?_)
  · obtain ⟨hM, hm3, hm1⟩ := tlO_ok hm
    have h60 := ht.2.1
    have hM96 : ∀ j, j < 3 * m → M j ≤ 96 := fun j hj => Nat.le_trans (hM j hj).1 (gG_le _)
    refine ⟨fun hx => absurd hx (by decide), fun _ => s_endsFit (by omega) hN hM96 (fun hr => ⟨fun _ => s_parts (by omega) ?_, fun hx => absurd hx (by decide)⟩) (fun hr => ⟨fun hx => absurd rfl hx, fun _ => ?_⟩)⟩
    · have hdc : dc = nI (vn d) := hd.1
      suffices go : ∀ c : Int32, c = nI (vn d) → wx_X5_requirePlacesFor c (nI m) (wn_X3_save so sn sb se sf sc sp sk db de df dc dp dk (fun (so_9 : Int32) (sn_10 : Int32) (sb_11 : Nat → Nat → Int32) (se_12 : Nat → Nat → Int32) (sf_13 : Nat → Nat → Int32) (sc_14 : Nat → Int32) (sp_15 : Nat → Int32) (sk_16 : Nat → Int32) => (∃ fu54, wl_x_X5_read_54 dp dk tc Q X fu54 db de df dc so_9 sn_10 sb_11 se_12 sf_13 sc_14 sp_15 sk_16 tl tn1 (nI (3 * m)) tv1 (0 : Int32)))) (fun (E : String) => X E db de df dc so sn sb se sf sc sp sk tl tn1 (nI (3 * m)) tv1) from go dc hdc
      rintro c rfl
      refine s_reqP hn (by omega) (fun hp => s_save hn hS hd (fun so1 sn1 sb1 se1 sf1 sc1 sp1 sk1 hS1 => ?_)) (fun hp => h2 m M hm hr hp _ _ _)
      have key : ∀ (k i : Nat) (db de df : Nat → Int32) (dc : Int32), i + k = m → DC (addM d M i) db de df dc dp dk → wl_x_X5_read_54 dp dk tc Q X (k + 1) db de df dc so1 sn1 sb1 se1 sf1 sc1 sp1 sk1 tl tn1 (nI (3 * m)) tv1 (nI i) := by
        intro k
        induction k with
        | zero =>
          intro i db de df dc hi hdi
          have e : i = m := by omega
          subst e
          rw [wl_x_X5_read_54]
          refine s_parts (by omega) ⟨fun _ => hq i M hm hr hp _ _ _ _ _ _ _ _ _ _ _ _ _ _ _ hS1 hdi, fun hx => absurd (by rw [z_le (by omega) (by omega)]; omega) hx⟩
        | succ k ih =>
          intro i db de df dc hi hdi
          have hvn := addM_n d M i
          rw [wl_x_X5_read_54]
          refine s_parts (by omega) ?_
          rw [z_le (by omega) (by omega), nI_1]
          exact ⟨fun hx => absurd hx (by omega), fun _ => s_inB (by omega) (by omega) hN (s_inE (by omega) (by omega) hN (s_inF (by omega) (by omega) hN (s_takeOn (by omega) hdi (fun db' de' df' dc' hd' => ih (i + 1) _ _ _ _ (by omega) hd'))))⟩
      exact ⟨m + 1, key m 0 _ _ _ _ (by omega) hd⟩
    · unfold wj_x_X5_read_20
      refine h1 (fun ⟨m', M', g1, g2⟩ => ?_) _ _ _
      obtain ⟨e1, e2⟩ := tlO_un hm g1
      subst e1 e2
      exact hr g2
  · refine ⟨fun _ => ?_, fun hx => absurd rfl hx⟩
    unfold wj_x_X5_read_20
    exact h1 (fun ⟨m, M, g1, _⟩ => hno ⟨m, M, g1⟩) _ _ _
end
