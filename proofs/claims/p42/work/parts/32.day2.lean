/-! days as values: rehearsals' number, pause, begins, ends, fames, bookings -/
abbrev DV : Type := Nat × Nat × (Nat → Nat) × (Nat → Nat) × (Nat → Nat) × Nat
abbrev vn (d : DV) : Nat := d.1
abbrev vP (d : DV) : Nat := d.2.1
abbrev vB (d : DV) : Nat → Nat := d.2.2.1
abbrev vE (d : DV) : Nat → Nat := d.2.2.2.1
abbrev vF (d : DV) : Nat → Nat := d.2.2.2.2.1
abbrev vK (d : DV) : Nat := d.2.2.2.2.2
/-- no two of the set clash -/
def chO (P : Nat) (B E : Nat → Nat) (n S : Nat) : Prop := ∀ i j, i < n → j < n → S.testBit i = true → S.testBit j = true → cl P B E i j = false
/-- a day that can be -/
def DOK (d : DV) : Prop := vn d ≤ 14 ∧ vP d ≤ 8 ∧ (∀ k, k < vn d → vB d k < vE d k ∧ vE d k ≤ 96 ∧ 1 ≤ vF d k ∧ vF d k ≤ 50) ∧ vK d < 2 ^ vn d ∧ chO (vP d) (vB d) (vE d) (vn d) (vK d)
/-- a day as the class holds it -/
def DC (d : DV) (db de df : Nat → Int32) (dc dp dk : Int32) : Prop := dc = nI (vn d) ∧ dp = nI (vP d) ∧ dk = nI (vK d) ∧ ∀ k, k < vn d → db k = nI (vB d k) ∧ de k = nI (vE d k) ∧ df k = nI (vF d k)
theorem DC.r {d : DV} {db de df : Nat → Int32} {dc dp dk : Int32} (h : DC d db de df dc dp dk) (ok : DOK d) : DR (vn d) (vP d) (vB d) (vE d) (vF d) db de df dc dp := by
  obtain ⟨h1, h2, -, h4⟩ := h
  obtain ⟨k1, k2, k3, -⟩ := ok
  refine ⟨h1, k1, h2, k2, fun k hk => ?_⟩
  obtain ⟨a, b, c⟩ := h4 k hk
  obtain ⟨x, y, z, w⟩ := k3 k hk
  exact ⟨a, b, c, x, y, z, w⟩
theorem DOK.K {d : DV} (ok : DOK d) : vK d < 2 ^ 14 := Nat.lt_of_lt_of_le ok.2.2.2.1 (Nat.pow_le_pow_right (by decide) ok.1)
theorem DOK.K31 {d : DV} (ok : DOK d) : vK d < 2 ^ 31 := Nat.lt_trans ok.K (by decide)
theorem s_copyFrom {n : Nat} (hn : n ≤ 14) {db de df ob oe of : Nat → Int32} {dc dp dk op ok : Int32} {Q : (Nat → Int32) → (Nat → Int32) → (Nat → Int32) → Int32 → Int32 → Int32 → Prop} (h : ∀ db' de' df' : Nat → Int32, (∀ k, k < n → db' k = ob k ∧ de' k = oe k ∧ df' k = of k) → Q db' de' df' (nI n) op ok) : wn_X1_copyFrom db de df dc dp dk ob oe of (nI n) op ok Q := by
  have key : ∀ (m k : Nat) (db de df : Nat → Int32), k + m = n → (∀ j, j < k → db j = ob j ∧ de j = oe j ∧ df j = of j) → wl_n_X1_copyFrom_2 ob oe of (nI n) op ok Q (m + 1) db de df dc dp dk (nI k) := by
    intro m
    induction m with
    | zero =>
      intro k db de df hk hj
      rw [wl_n_X1_copyFrom_2, z_le (by omega) (by omega)]
      exact ⟨fun _ => h db de df (fun j h1 => hj j (by omega)), fun hc => absurd (by omega) hc⟩
    | succ m ih =>
      intro k db de df hk hj
      have hv : vp_in (nI k) 14 := z_in (by omega) (by decide)
      rw [wl_n_X1_copyFrom_2, z_le (by omega) (by omega)]
      refine ⟨fun hc => absurd hc (by omega), fun _ => ?_⟩
      unfold wn_X1_copyRehearsal_two
      rw [z_cl (by omega), nI_1]
      refine ⟨hv, hv, hv, hv, hv, hv, ih (k + 1) _ _ _ (by omega) (fun j h1 => ?_)⟩
      by_cases hjk : j = k
      · subst hjk
        exact ⟨pk_us, pk_us, pk_us⟩
      · rw [pk_un hjk, pk_un hjk, pk_un hjk]
        exact hj j (by omega)
  exact ⟨n + 1, key n 0 db de df (by omega) (fun j hj => absurd hj (by omega))⟩
/-- copyFrom, in days -/
theorem s_copyDay {d : DV} (hn : vn d ≤ 14) {db de df ob oe of : Nat → Int32} {dc dp dk oc op ok : Int32} (hd : DC d ob oe of oc op ok) {Q : (Nat → Int32) → (Nat → Int32) → (Nat → Int32) → Int32 → Int32 → Int32 → Prop} (h : ∀ (db' de' df' : Nat → Int32) (dc' dp' dk' : Int32), DC d db' de' df' dc' dp' dk' → Q db' de' df' dc' dp' dk') : wn_X1_copyFrom db de df dc dp dk ob oe of oc op ok Q := by
  obtain ⟨h1, h2, h3, h4⟩ := hd
  subst h1
  refine s_copyFrom hn (fun db' de' df' hh => h db' de' df' _ _ _ ⟨rfl, h2, h3, fun k hk => ?_⟩)
  obtain ⟨a, b, c⟩ := hh k hk
  rw [a, b, c]
  exact h4 k hk
/-- the states for undo, oldest first, as the class's ring holds them -/
def SC (S : List DV) (so sn : Int32) (sb se sf : Nat → Nat → Int32) (sc sp sk : Nat → Int32) : Prop :=
  ∃ o : Nat, so = nI o ∧ o < 6 ∧ sn = nI S.length ∧ S.length ≤ 6 ∧ (∀ d ∈ S, vn d ≤ 14) ∧ ∀ (i : Nat) (d : DV), S[i]? = some d → DC d (sb ((o + i) % 6)) (se ((o + i) % 6)) (sf ((o + i) % 6)) (sc ((o + i) % 6)) (sp ((o + i) % 6)) (sk ((o + i) % 6))
/-- one state more; of six the oldest is dropped -/
def psh (S : List DV) (d : DV) : List DV := (if S.length = 6 then S.tail else S) ++ [d]
theorem psh_len (S : List DV) (d : DV) (h : S.length ≤ 6) : (psh S d).length = if S.length = 6 then 6 else S.length + 1 := by
  unfold psh
  by_cases h6 : S.length = 6
  · simp [h6]
  · simp [h6]
theorem s_save_put {T : List DV} {d : DV} {o : Nat} (ho : o < 6) (hT : T.length ≤ 5) (hTn : ∀ e ∈ T, vn e ≤ 14) (hn : vn d ≤ 14) {sb se sf : Nat → Nat → Int32} {sc sp sk : Nat → Int32} (hS : ∀ (i : Nat) (e : DV), T[i]? = some e → DC e (sb ((o + i) % 6)) (se ((o + i) % 6)) (sf ((o + i) % 6)) (sc ((o + i) % 6)) (sp ((o + i) % 6)) (sk ((o + i) % 6)))
    {db de df : Nat → Int32} {dc dp dk : Int32} (hd : DC d db de df dc dp dk) {Q : Int32 → Int32 → (Nat → Nat → Int32) → (Nat → Nat → Int32) → (Nat → Nat → Int32) → (Nat → Int32) → (Nat → Int32) → (Nat → Int32) → Prop}
    (h : ∀ (so' sn' : Int32) (sb' se' sf' : Nat → Nat → Int32) (sc' sp' sk' : Nat → Int32), SC (T ++ [d]) so' sn' sb' se' sf' sc' sp' sk' → Q so' sn' sb' se' sf' sc' sp' sk') : wj_n_X3_save_32 db de df dc dp dk Q (nI o) (nI T.length) sb se sf sc sp sk := by
  unfold wj_n_X3_save_32
  have hx : (nI o + nI T.length) - (nI o + nI T.length) / (6 : Int32) * (6 : Int32) = nI ((o + T.length) % 6) := by
    rw [nI_add, z_6]
    exact pk_rem (by omega) (by decide) (by decide)
  rw [hx]
  have hm : (o + T.length) % 6 < 6 := Nat.mod_lt _ (by decide)
  have key : ∀ k : Nat, (o + T.length) % 6 = k → wn_X1_copyFrom (sb k) (se k) (sf k) (sc k) (sp k) (sk k) db de df dc dp dk (fun db' de' df' dc' dp' dk' => Q (nI o) (nI T.length + (1 : Int32)) (va_up sb k db') (va_up se k de') (va_up sf k df') (va_up sc k dc') (va_up sp k dp') (va_up sk k dk')) := by
    intro k hk
    refine s_copyDay hn hd (fun db' de' df' dc' dp' dk' hd' => h _ _ _ _ _ _ _ _ ?_)
    refine ⟨o, rfl, ho, by rw [nI_1, List.length_append]; rfl, by rw [List.length_append]; simp; omega, ?_, ?_⟩
    · intro e he
      rcases List.mem_append.mp he with h1 | h1
      · exact hTn e h1
      · rw [List.mem_singleton.mp h1]; exact hn
    · intro i e hi
      rcases Nat.lt_or_ge i T.length with h1 | h1
      · rw [List.getElem?_append_left h1] at hi
        have hne : ¬ (o + i) % 6 = k := by omega
        simp only [va_up, if_neg hne]
        exact hS i e hi
      · rw [List.getElem?_append_right h1] at hi
        have h2 : i - T.length = 0 := by
          rcases Nat.eq_zero_or_pos (i - T.length) with h3 | h3
          · exact h3
          · rw [List.getElem?_eq_none (by simp; omega)] at hi; cases hi
        rw [h2] at hi
        cases hi
        have he : (o + i) % 6 = k := by rw [show i = T.length by omega]; exact hk
        simp only [va_up, if_pos he]
        exact hd'
  refine ⟨z_in hm (by decide), ?_, ?_, ?_, ?_, ?_, ?_⟩
  · intro hk; exact key 0 ((nI_eq (by omega) (by decide)).mp hk)
  · intro hk; exact key 1 ((nI_eq (by omega) (by decide)).mp hk)
  · intro hk; exact key 2 ((nI_eq (by omega) (by decide)).mp hk)
  · intro hk; exact key 3 ((nI_eq (by omega) (by decide)).mp hk)
  · intro hk; exact key 4 ((nI_eq (by omega) (by decide)).mp hk)
  · intro hk; exact key 5 ((nI_eq (by omega) (by decide)).mp hk)
theorem s_save {S : List DV} {d : DV} (hn : vn d ≤ 14) {so sn : Int32} {sb se sf : Nat → Nat → Int32} {sc sp sk : Nat → Int32} (hS : SC S so sn sb se sf sc sp sk) {db de df : Nat → Int32} {dc dp dk : Int32} (hd : DC d db de df dc dp dk) {Q : Int32 → Int32 → (Nat → Nat → Int32) → (Nat → Nat → Int32) → (Nat → Nat → Int32) → (Nat → Int32) → (Nat → Int32) → (Nat → Int32) → Prop}
    (h : ∀ (so' sn' : Int32) (sb' se' sf' : Nat → Nat → Int32) (sc' sp' sk' : Nat → Int32), SC (psh S d) so' sn' sb' se' sf' sc' sp' sk' → Q so' sn' sb' se' sf' sc' sp' sk') : wn_X3_save so sn sb se sf sc sp sk db de df dc dp dk Q := by
  obtain ⟨o, rfl, ho, rfl, hl, hSn, hS⟩ := hS
  unfold wn_X3_save
  rw [z_6, z_eq (by omega) (by decide)]
  refine ⟨fun h6 => ?_, fun h6 => ?_⟩
  · refine s_save_put ho (by omega) hSn hn hS hd ?_
    have e : psh S d = S ++ [d] := by unfold psh; rw [if_neg h6]
    rw [← e]
    exact h
  · have hT : S.tail.length = 5 := by simp [h6]
    have e1 : (nI o + (1 : Int32)) - (nI o + (1 : Int32)) / nI 6 * nI 6 = nI ((o + 1) % 6) := by
      rw [nI_1]
      exact pk_rem (by omega) (by decide) (by decide)
    have e2 : nI S.length - (1 : Int32) = nI S.tail.length := by
      rw [h6, hT]; rfl
    rw [e1, e2]
    have e : psh S d = S.tail ++ [d] := by unfold psh; rw [if_pos h6]
    rw [e] at h
    refine s_save_put (Nat.mod_lt _ (by decide)) (by omega) (fun e he => hSn e (List.mem_of_mem_tail he)) hn (fun i e hi => ?_) hd h
    rw [List.getElem?_tail] at hi
    have h3 := hS (i + 1) e hi
    have h4 : (o + (i + 1)) % 6 = ((o + 1) % 6 + i) % 6 := by omega
    rw [h4] at h3
    exact h3
