/-! the reference's rows: copying, saving, changing -/
theorem z_45 : (45 : Int32) = nI 45 := rfl
theorem z_225 : (225 : Int32) = nI 225 := rfl
theorem m_copy {uu vv : Nat → Int32} {Q : (Nat → Int32) → Prop} (h : ∀ vv' : Nat → Int32, (∀ k, k < 45 → vv' k = uu k) → Q vv') : wn_X6_copy uu vv Q := by
  have key : ∀ (m k : Nat) (vv : Nat → Int32), k + m = 45 → (∀ j, j < k → vv j = uu j) → wl_n_X6_copy_2 uu Q (m + 1) vv (nI k) := by
    intro m
    induction m with
    | zero =>
      intro k vv hk hj
      rw [wl_n_X6_copy_2, z_45, z_le (by omega) (by omega)]
      exact ⟨fun _ => h vv (fun j h1 => hj j (by omega)), fun hc => absurd (by omega) hc⟩
    | succ m ih =>
      intro k vv hk hj
      have hv : vp_in (nI k) 45 := z_in (by omega) (by decide)
      rw [wl_n_X6_copy_2, z_45, z_le (by omega) (by omega)]
      refine ⟨fun hc => absurd hc (by omega), fun _ => ?_⟩
      rw [z_cl (by omega), nI_1]
      refine ⟨hv, hv, ih (k + 1) _ (by omega) (fun j h1 => ?_)⟩
      by_cases hjk : j = k
      · subst hjk; exact pk_us
      · rw [pk_un hjk]; exact hj j (by omega)
  exact ⟨46, key 45 0 vv (by omega) (fun j hj => absurd hj (by omega))⟩
theorem DM.ext {d : DV} (hn : vn d ≤ 14) {y y' : Nat → Int32} (h : DM d y) (e : ∀ k, k < 45 → y' k = y k) : DM d y' := by
  obtain ⟨h1, h2, h3, h4⟩ := h
  refine ⟨fun k hk => ?_, ?_, ?_, ?_⟩
  · rw [e k (by omega), e (14 + k) (by omega), e (28 + k) (by omega)]; exact h1 k hk
  · rw [e 42 (by decide)]; exact h2
  · rw [e 43 (by decide)]; exact h3
  · rw [e 44 (by decide)]; exact h4
theorem m_copyDay {d : DV} (hn : vn d ≤ 14) {uu vv : Nat → Int32} (hd : DM d uu) {Q : (Nat → Int32) → Prop} (h : ∀ vv' : Nat → Int32, DM d vv' → Q vv') : wn_X6_copy uu vv Q :=
  m_copy (fun vv' e => h vv' (hd.ext hn e))
/-- the saved states as the reference holds them -/
def MS (S : List DV) (yb : Nat → Int32) (zs : Int32) : Prop := zs = nI S.length ∧ S.length ≤ 6 ∧ (∀ d ∈ S, vn d ≤ 14) ∧ ∀ (i : Nat) (d : DV), S[i]? = some d → DM d (fun k => yb (45 * i + k))
theorem m_save_put {T : List DV} {d : DV} (hT : T.length ≤ 5) (hTn : ∀ e ∈ T, vn e ≤ 14) (hn : vn d ≤ 14) {yn yb : Nat → Int32} (hS : ∀ (i : Nat) (e : DV), T[i]? = some e → DM e (fun k => yb (45 * i + k))) (hd : DM d yn) {Q : (Nat → Int32) → Int32 → Prop}
    (h : ∀ (yb' : Nat → Int32) (zs' : Int32), MS (T ++ [d]) yb' zs' → Q yb' zs') : ∃ fu, wl_n_X6_save_51 yn Q fu yb (nI T.length) (0 : Int32) := by
  have key : ∀ (m k : Nat) (yc : Nat → Int32), k + m = 45 → (∀ j, j < 45 * T.length → yc j = yb j) → (∀ j, j < k → yc (45 * T.length + j) = yn j) → wl_n_X6_save_51 yn Q (m + 1) yc (nI T.length) (nI k) := by
    intro m
    induction m with
    | zero =>
      intro k yc hk h1 h2
      rw [wl_n_X6_save_51, z_45, z_le (by omega) (by omega), nI_1]
      refine ⟨fun _ => h _ _ ⟨by simp, by simp; omega, ?_, ?_⟩, fun hc => absurd (by omega) hc⟩
      · intro e he
        rcases List.mem_append.mp he with h3 | h3
        · exact hTn e h3
        · rw [List.mem_singleton.mp h3]; exact hn
      · intro i e hi
        rcases Nat.lt_or_ge i T.length with h3 | h3
        · rw [List.getElem?_append_left h3] at hi
          have hen : vn e ≤ 14 := hTn e (List.mem_of_getElem? hi)
          refine (hS i e hi).ext hen (fun j hj => h1 _ ?_)
          have : 45 * i + 45 ≤ 45 * T.length := by
            have := Nat.mul_le_mul_left 45 (show i + 1 ≤ T.length from h3)
            omega
          omega
        · rw [List.getElem?_append_right h3] at hi
          have h4 : i - T.length = 0 := by
            rcases Nat.eq_zero_or_pos (i - T.length) with h5 | h5
            · exact h5
            · rw [List.getElem?_eq_none (by simp; omega)] at hi; cases hi
          rw [h4] at hi
          cases hi
          rw [show i = T.length by omega]
          exact hd.ext hn (fun j hj => h2 j (by omega))
    | succ m ih =>
      intro k yc hk h1 h2
      have hv : vp_in (nI k) 45 := z_in (by omega) (by decide)
      have hv2 : vp_in (nI (45 * T.length + k)) 270 := z_in (by omega) (by decide)
      rw [wl_n_X6_save_51, z_45, z_le (by omega) (by omega), pk_mul, nI_add, z_cl (by omega), z_cl (by omega), nI_1 k]
      refine ⟨fun hc => absurd hc (by omega), fun _ => ⟨hv, hv2, ih (k + 1) _ (by omega) (fun j hj => ?_) (fun j hj => ?_)⟩⟩
      · rw [pk_un (by omega)]; exact h1 j hj
      · by_cases hjk : j = k
        · subst hjk; exact pk_us
        · rw [pk_un (by omega)]; exact h2 j (by omega)
  exact ⟨46, key 45 0 yb (by omega) (fun _ _ => rfl) (fun j hj => absurd hj (by omega))⟩
theorem m_save {S : List DV} {d : DV} (hn : vn d ≤ 14) {yn yb : Nat → Int32} {zs : Int32} (hS : MS S yb zs) (hd : DM d yn) {Q : (Nat → Int32) → Int32 → Prop}
    (h : ∀ (yb' : Nat → Int32) (zs' : Int32), MS (psh S d) yb' zs' → Q yb' zs') : wn_X6_save yn yb zs Q := by
  obtain ⟨rfl, hl, hSn, hS⟩ := hS
  unfold wn_X6_save
  rw [z_6, z_eq (by omega) (by decide)]
  refine ⟨fun h6 => ?_, fun h6 => ?_⟩
  · refine m_save_put (by omega) hSn hn hS hd ?_
    have e : psh S d = S ++ [d] := by unfold psh; rw [if_neg h6]
    rw [← e]
    exact h
  · have hT : S.tail.length = 5 := by simp [h6]
    have e : psh S d = S.tail ++ [d] := by unfold psh; rw [if_pos h6]
    rw [e] at h
    have key : ∀ (m k : Nat) (yc : Nat → Int32), k + m = 225 → (∀ j, j < k → yc j = yb (45 + j)) → (∀ j, k ≤ j → yc j = yb j) → wl_n_X6_save_11 yn Q (m + 1) yc (nI S.length) (nI k) := by
      intro m
      induction m with
      | zero =>
        intro k yc hk h1 h2
        rw [wl_n_X6_save_11, z_225, z_le (by omega) (by omega), z_1, z_sub (by omega), show S.length - 1 = S.tail.length by omega]
        refine ⟨fun _ => m_save_put (by omega) (fun e he => hSn e (List.mem_of_mem_tail he)) hn (fun i e hi => ?_) hd h, fun hc => absurd (by omega) hc⟩
        have hi5 : i < 5 := by
          rcases Nat.lt_or_ge i 5 with h3 | h3
          · exact h3
          · rw [List.getElem?_eq_none (by omega)] at hi; cases hi
        have hen : vn e ≤ 14 := hSn e (List.mem_of_mem_tail (List.mem_of_getElem? hi))
        rw [List.getElem?_tail] at hi
        refine (hS (i + 1) e hi).ext hen (fun j hj => ?_)
        show yc (45 * i + j) = yb (45 * (i + 1) + j)
        rw [h1 _ (by omega), show 45 + (45 * i + j) = 45 * (i + 1) + j by omega]
      | succ m ih =>
        intro k yc hk h1 h2
        have hv : vp_in (nI k) 270 := z_in (by omega) (by decide)
        have hv2 : vp_in (nI (45 + k)) 270 := z_in (by omega) (by decide)
        rw [wl_n_X6_save_11, z_225, z_le (by omega) (by omega), z_45, nI_add, z_cl (by omega), z_cl (by omega), nI_1]
        refine ⟨fun hc => absurd hc (by omega), fun _ => ⟨hv2, hv, ih (k + 1) _ (by omega) (fun j hj => ?_) (fun j hj => ?_)⟩⟩
        · by_cases hjk : j = k
          · subst hjk; rw [pk_us]; exact h2 _ (by omega)
          · rw [pk_un hjk]; exact h1 j (by omega)
        · rw [pk_un (by omega)]; exact h2 j (by omega)
    exact ⟨226, key 225 0 yb (by omega) (fun j hj => absurd hj (by omega)) (fun _ _ => rfl)⟩
theorem m_goAdd {d : DV} (hn : vn d < 14) {y : Nat → Int32} (hd : DM d y) {b e f : Nat} {Q : Int32 → (Nat → Int32) → Prop} (h : ∀ y' : Nat → Int32, DM (addD d b e f) y' → Q (nI (vn d)) y') : wn_X6_goAdd y (nI b) (nI e) (nI f) Q := by
  obtain ⟨h1, h2, h3, h4⟩ := hd
  have hv : vp_in (nI (vn d)) 45 := z_in (by omega) (by decide)
  have hv2 : vp_in (nI (14 + vn d)) 45 := z_in (by omega) (by decide)
  have hv3 : vp_in (nI (28 + vn d)) 45 := z_in (by omega) (by decide)
  unfold wn_X6_goAdd
  rw [z44, h4, z14p, z28p, z_cl (by omega), z_cl (by omega), z_cl (by omega)]
  refine ⟨zi44, hv, hv2, hv3, zi44, zi44, h _ ⟨fun k hk => ?_, ?_, ?_, ?_⟩⟩
  · have hk' : k < vn d + 1 := hk
    by_cases hkn : k = vn d
    · subst hkn
      refine ⟨?_, ?_, ?_⟩
      · rw [pk_un (by omega), pk_un (by omega), pk_un (by omega), pk_us]
        show nI _ = nI (if vn d = vn d then _ else _); rw [if_pos rfl]
      · rw [pk_un (by omega), pk_un (by omega), pk_us]
        show nI _ = nI (if vn d = vn d then _ else _); rw [if_pos rfl]
      · rw [pk_un (by omega), pk_us]
        show nI _ = nI (if vn d = vn d then _ else _); rw [if_pos rfl]
    · obtain ⟨a1, a2, a3⟩ := h1 k (by omega)
      refine ⟨?_, ?_, ?_⟩
      · rw [pk_un (by omega), pk_un (by omega), pk_un (by omega), pk_un (by omega)]
        show _ = nI (if k = vn d then _ else _); rw [if_neg hkn]; exact a1
      · rw [pk_un (by omega), pk_un (by omega), pk_un (by omega), pk_un (by omega)]
        show _ = nI (if k = vn d then _ else _); rw [if_neg hkn]; exact a2
      · rw [pk_un (by omega), pk_un (by omega), pk_un (by omega), pk_un (by omega)]
        show _ = nI (if k = vn d then _ else _); rw [if_neg hkn]; exact a3
  · rw [pk_un (by omega), pk_un (by omega), pk_un (by omega), pk_un (by omega)]; exact h2
  · rw [pk_un (by omega), pk_un (by omega), pk_un (by omega), pk_un (by omega)]; exact h3
  · rw [pk_us, pk_un (by omega), pk_un (by omega), pk_un (by omega), h4, nI_1]; rfl
/-! what is asked, in naturals -/
theorem isT_of {x y : Int32} (h : isT x y) : ∃ b e : Nat, x = nI b ∧ y = nI e ∧ b < e ∧ e ≤ 96 := by
  obtain ⟨h1, h2, h3, h4⟩ := h
  have hx : ¬ x < 0 := by rw [Int32.lt_iff_toInt_lt, ti0]; omega
  have hy : ¬ y < 0 := by rw [Int32.lt_iff_toInt_lt, ti0]; omega
  obtain ⟨b, hb, rfl⟩ := nI_of hx
  obtain ⟨e, he, rfl⟩ := nI_of hy
  rw [nI_toInt hb] at h1 h2 h3
  rw [nI_toInt he] at h3 h4
  exact ⟨b, e, rfl, rfl, by omega, by omega⟩
theorem isF_of {x : Int32} (h : isF x) : ∃ f : Nat, x = nI f ∧ 1 ≤ f ∧ f ≤ 50 := by
  obtain ⟨h1, h2⟩ := h
  have hx : ¬ x < 0 := by rw [Int32.lt_iff_toInt_lt, ti0]; omega
  obtain ⟨b, hb, rfl⟩ := nI_of hx
  rw [nI_toInt hb] at h1 h2
  exact ⟨b, rfl, by omega, by omega⟩
