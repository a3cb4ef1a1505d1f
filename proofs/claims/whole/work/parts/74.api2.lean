/-! texts, snapshots, undo -/
/-- a text of n codes -/
def TC (n : Nat) (t : Nat → Nat) (tc : Nat → Int32) (tl : Int32) : Prop := tl = nI n ∧ n ≤ 60 ∧ ∀ k, k < n → tc k = nI (t k)
def TOK (n : Nat) (t : Nat → Nat) : Prop := n ≤ 60 ∧ ∀ k, k < n → 33 ≤ t k ∧ t k ≤ 126
def isC (x : Int32) : Prop := 33 ≤ x.toInt ∧ x.toInt ≤ 126
theorem ti33 : (33 : Int32).toInt = 33 := by decide
theorem ti126 : (126 : Int32).toInt = 126 := by decide
theorem l64_33 : (33 : Int64).toInt = 33 := by decide
theorem l64_126 : (126 : Int64).toInt = 126 := by decide
theorem z_60 : (60 : Int32) = nI 60 := rfl
theorem isC_of {x : Int32} (h : isC x) : ∃ c : Nat, x = nI c ∧ 33 ≤ c ∧ c ≤ 126 := by
  obtain ⟨h1, h2⟩ := h
  have hx : ¬ x < 0 := by rw [Int32.lt_iff_toInt_lt, ti0]; omega
  obtain ⟨b, hb, rfl⟩ := nI_of hx
  rw [nI_toInt hb] at h1 h2
  exact ⟨b, rfl, by omega, by omega⟩
theorem TC.put {n : Nat} {t : Nat → Nat} {tc : Nat → Int32} {tl : Int32} (h : TC n t tc tl) (hn : n < 60) (c : Nat) : TC (n + 1) (upN t n c) (upd tc n (nI c)) (nI (n + 1)) := by
  obtain ⟨h1, h2, h3⟩ := h
  refine ⟨rfl, by omega, fun k hk => ?_⟩
  by_cases hkn : k = n
  · subst hkn; rw [pk_us, upN_s]
  · rw [pk_un hkn, upN_n hkn]; exact h3 k (by omega)
theorem S_append {n : Nat} {t : Nat → Nat} {tc : Nat → Int32} {tl a1 : Int32} (ht : TC n t tc tl) {Q : Int32 → (Nat → Int32) → Int32 → Prop} {X : String → (Nat → Int32) → Int32 → Prop}
    (hq : isC a1 → n < 60 → ∀ (c : Nat) (tc' : Nat → Int32), a1 = nI c → 33 ≤ c → c ≤ 126 → TC (n + 1) (upN t n c) tc' (nI (n + 1)) → Q (nI (n + 1)) tc' (nI (n + 1)))
    (h1 : ¬ isC a1 → X "java/lang/IllegalArgumentException" tc tl)
    (h2 : isC a1 → ¬ n < 60 → X "java/lang/IllegalStateException" tc tl) : wx_X5_append tc tl a1 Q X := by
  have ht0 := ht
  obtain ⟨rfl, hn, h3⟩ := ht
  unfold wx_X5_append wj_x_X5_append_12 wn_X4_put
  rw [Int32.lt_iff_toInt_lt, Int32.le_iff_toInt_le, ti33, ti126]
  refine ⟨fun hc => h1 (fun h => by have := h.1; omega), fun hc => ⟨fun hc2 => ?_, fun hc2 => h1 (fun h => by have := h.2; omega)⟩⟩
  have hC : isC a1 := ⟨by omega, hc2⟩
  rw [z_60, z_lt (by omega) (by decide)]
  refine ⟨fun h6 => ?_, fun h6 => h2 hC h6⟩
  obtain ⟨c, rfl, hc3, hc4⟩ := isC_of hC
  have hv : vp_in (nI n) 60 := z_in h6 (by decide)
  rw [z_cl (by omega), nI_1]
  exact ⟨hv, hq hC h6 c _ rfl hc3 hc4 (ht0.put h6 c)⟩
theorem M_append {n : Nat} {t : Nat → Nat} {yx : Nat → Int32} {za zl a1 : Int32} (ht : TC n t yx zl) {Q : Int32 → (Nat → Int32) → Int32 → Int32 → Prop}
    (hq : isC a1 → n < 60 → ∀ (c : Nat) (yx' : Nat → Int32), a1 = nI c → c ≤ 126 → TC (n + 1) (upN t n c) yx' (nI (n + 1)) → Q (nI (n + 1)) yx' 0 (nI (n + 1)))
    (h1 : ¬ isC a1 → Q 0 yx 1 zl)
    (h2 : isC a1 → ¬ n < 60 → Q 0 yx 2 zl) : wn_X6_append yx za zl a1 Q := by
  have ht0 := ht
  obtain ⟨rfl, hn, h3⟩ := ht
  unfold wn_X6_append
  refine m_in ?_
  rw [Int32.toInt_toInt64, l64_33, l64_126]
  by_cases hC : isC a1
  · have hC' := hC
    unfold isC at hC'
    rw [if_pos hC', z_60, z_eq (by omega) (by decide)]
    unfold wj_n_X6_append_33
    refine ⟨fun _ => ⟨fun h6 => m_refused0 ⟨fun _ => ?_, fun hx => absurd rfl hx⟩, fun h6 => m_refusedN (by decide) ⟨fun hx => absurd hx (by decide), fun _ => h2 hC (by omega)⟩⟩, fun hx => absurd hx (by decide)⟩
    obtain ⟨c, rfl, hc3, hc4⟩ := isC_of hC
    have h6 : n < 60 := by omega
    have hv : vp_in (nI n) 60 := z_in h6 (by decide)
    rw [z_cl (by omega), nI_1]
    exact ⟨hv, hq hC h6 c _ rfl hc4 (ht0.put h6 c)⟩
  · have hC' := hC
    unfold isC at hC'
    rw [if_neg hC']
    exact ⟨fun hx => absurd rfl hx, fun _ => m_refusedN (by decide) ⟨fun hx => absurd hx (by decide), fun _ => h1 hC⟩⟩
/-- the snapshots as the class holds them -/
def NC (N : Nat → Option DV) (nb ne nf : Nat → Nat → Int32) (nc np nk tk : Nat → Int32) : Prop :=
  ∀ i, i < 2 → tk i = (if (N i).isSome = true then 1 else 0) ∧ ∀ e, N i = some e → vn e ≤ 14 ∧ DC e (nb i) (ne i) (nf i) (nc i) (np i) (nk i)
def NM (N : Nat → Option DV) (yk yi : Nat → Int32) : Prop :=
  ∀ i, i < 2 → yi i = (if (N i).isSome = true then 1 else 0) ∧ ∀ e, N i = some e → vn e ≤ 14 ∧ DM e (fun k => yk (45 * i + k))
def upO (N : Nat → Option DV) (i : Nat) (d : DV) : Nat → Option DV := fun j => if j = i then some d else N j
theorem nar1 : vp_nar .boolean (1 : Int32) = 1 := by decide
theorem S_keep {N : Nat → Option DV} {d : DV} (hn : vn d ≤ 14) {nb ne nf : Nat → Nat → Int32} {nc np nk tk : Nat → Int32} (hN : NC N nb ne nf nc np nk tk) {db de df : Nat → Int32} {dc dp dk a1 : Int32} (hd : DC d db de df dc dp dk) {Q : (Nat → Nat → Int32) → (Nat → Nat → Int32) → (Nat → Nat → Int32) → (Nat → Int32) → (Nat → Int32) → (Nat → Int32) → (Nat → Int32) → Prop} {X : String → (Nat → Nat → Int32) → (Nat → Nat → Int32) → (Nat → Nat → Int32) → (Nat → Int32) → (Nat → Int32) → (Nat → Int32) → (Nat → Int32) → Prop}
    (hq : ∀ i : Nat, i < 2 → a1 = nI i → ∀ (nb' ne' nf' : Nat → Nat → Int32) (nc' np' nk' tk' : Nat → Int32), NC (upO N i d) nb' ne' nf' nc' np' nk' tk' → Q nb' ne' nf' nc' np' nk' tk')
    (h1 : ¬ isN 2 a1 → X "java/lang/IllegalArgumentException" nb ne nf nc np nk tk) : wx_X5_keep db de df dc dp dk nb ne nf nc np nk tk a1 Q X := by
  unfold wx_X5_keep
  refine s_reqS (fun hs => ?_) h1
  obtain ⟨i, hi, rfl⟩ := isN_of hs (by decide)
  have hv : vp_in (nI i) 2 := z_in hi (by decide)
  have key : ∀ k : Nat, i = k → wn_X1_copyFrom (nb k) (ne k) (nf k) (nc k) (np k) (nk k) db de df dc dp dk (fun db' de' df' dc' dp' dk' => (vp_in (nI i) 2 ∧ (Q (va_up nb k db') (va_up ne k de') (va_up nf k df') (va_up nc k dc') (va_up np k dp') (va_up nk k dk') (upd tk (nI i).toNatClampNeg (vp_nar .boolean (1 : Int32)))))) := by
    rintro k rfl
    refine s_copyDay hn hd (fun db' de' df' dc' dp' dk' hd' => ⟨hv, hq i hi rfl _ _ _ _ _ _ _ ?_⟩)
    rw [z_cl (by omega), nar1]
    intro j hj
    by_cases hji : j = i
    · subst hji
      simp only [va_up, if_pos, pk_us, upO]
      refine ⟨rfl, fun e he => ?_⟩
      cases he
      exact ⟨hn, hd'⟩
    · rw [pk_un hji]
      simp only [va_up, upO, if_neg hji]
      exact hN j hj
  refine ⟨hv, fun h => key 0 ((nI_eq (by omega) (by decide)).mp h), fun h => key 1 ((nI_eq (by omega) (by decide)).mp h)⟩
theorem m_slot {x : Int32} {Q : Int32 → Prop} (h1 : isN 2 x → Q 1) (h0 : ¬ isN 2 x → Q 0) : wn_X6_isSlot x Q := by
  refine m_in ?_
  unfold isN at h1 h0
  rw [Int32.toInt_toInt64, l64_0, l64_1]
  by_cases hc : 0 ≤ x.toInt ∧ x.toInt ≤ 1
  · rw [if_pos hc]; exact h1 (by omega)
  · rw [if_neg hc]; exact h0 (by omega)
theorem M_keep {N : Nat → Option DV} {d : DV} (hn : vn d ≤ 14) {yn yk yi : Nat → Int32} {za a1 : Int32} (hN : NM N yk yi) (hd : DM d yn) {Q : (Nat → Int32) → (Nat → Int32) → Int32 → Prop}
    (hq : ∀ i : Nat, i < 2 → a1 = nI i → ∀ (yk' yi' : Nat → Int32), NM (upO N i d) yk' yi' → Q yk' yi' 0)
    (h1 : ¬ isN 2 a1 → Q yk yi 1) : wn_X6_keep yn yk yi za a1 Q := by
  unfold wn_X6_keep wj_n_X6_keep_13
  refine m_slot (fun hs => ⟨fun hx => absurd hx (by decide), fun _ => m_refused0 ⟨fun _ => ?_, fun hx => absurd rfl hx⟩⟩) (fun hs => ⟨fun _ => m_refusedN (by decide) ⟨fun hx => absurd hx (by decide), fun _ => h1 hs⟩, fun hx => absurd rfl hx⟩)
  obtain ⟨i, hi, rfl⟩ := isN_of hs (by decide)
  have hv2 : vp_in (nI i) 2 := z_in hi (by decide)
  have key : ∀ (m k : Nat) (y : Nat → Int32), k + m = 45 → (∀ j, (j < 45 * i ∨ 45 * i + 45 ≤ j) → y j = yk j) → (∀ j, j < k → y (45 * i + j) = yn j) → wl_n_X6_keep_22 yn Q (m + 1) y yi 0 (nI i) (nI k) := by
    intro m
    induction m with
    | zero =>
      intro k y hk h1 h2
      rw [wl_n_X6_keep_22, z_45, z_le (by omega) (by omega), z_cl (by omega), nar1]
      refine ⟨fun _ => ⟨hv2, hq i hi rfl _ _ (fun j hj => ?_)⟩, fun hc => absurd (by omega) hc⟩
      by_cases hji : j = i
      · subst hji
        simp only [pk_us, upO, if_pos]
        refine ⟨rfl, fun e he => ?_⟩
        cases he
        exact ⟨hn, hd.ext hn (fun c hc => h2 c (by omega))⟩
      · rw [pk_un hji]
        simp only [upO, if_neg hji]
        refine ⟨(hN j hj).1, fun e he => ?_⟩
        obtain ⟨a, b⟩ := (hN j hj).2 e he
        refine ⟨a, b.ext a (fun c hc => h1 _ ?_)⟩
        have : j < i ∨ i < j := by omega
        rcases this with h | h
        · left; have := Nat.mul_le_mul_left 45 (show j + 1 ≤ i from h); omega
        · right; have := Nat.mul_le_mul_left 45 (show i + 1 ≤ j from h); omega
    | succ m ih =>
      intro k y hk h1 h2
      have hv : vp_in (nI k) 45 := z_in (by omega) (by decide)
      have hv3 : vp_in (nI (45 * i + k)) 90 := z_in (by omega) (by decide)
      rw [wl_n_X6_keep_22, z_45, z_le (by omega) (by omega), pk_mul, nI_add, nI_1 k, z_cl (n := k) (by omega), z_cl (n := 45 * i + k) (by omega)]
      refine ⟨fun hc => absurd hc (by omega), fun _ => ⟨hv, hv3, ih (k + 1) _ (by omega) (fun j hj => ?_) (fun j hj => ?_)⟩⟩
      · rw [pk_un (by omega)]; exact h1 j hj
      · by_cases hjk : j = k
        · subst hjk; exact pk_us
        · rw [pk_un (by omega)]; exact h2 j (by omega)
  exact ⟨46, key 45 0 yk (by omega) (fun _ _ => rfl) (fun j hj => absurd hj (by omega))⟩
section
variable {N : Nat → Option DV} {S : List DV} {d : DV}
theorem S_goBack (hn : vn d ≤ 14) {so sn : Int32} {sb se sf : Nat → Nat → Int32} {sc sp sk : Nat → Int32} {nb ne nf : Nat → Nat → Int32} {nc np nk tk : Nat → Int32} (hN : NC N nb ne nf nc np nk tk) (hS : SC S so sn sb se sf sc sp sk) {db de df : Nat → Int32} {dc dp dk a1 : Int32} (hd : DC d db de df dc dp dk) {Q : (Nat → Int32) → (Nat → Int32) → (Nat → Int32) → Int32 → Int32 → Int32 → Int32 → Int32 → (Nat → Nat → Int32) → (Nat → Nat → Int32) → (Nat → Nat → Int32) → (Nat → Int32) → (Nat → Int32) → (Nat → Int32) → Prop} {X : String → (Nat → Int32) → (Nat → Int32) → (Nat → Int32) → Int32 → Int32 → Int32 → Int32 → Int32 → (Nat → Nat → Int32) → (Nat → Nat → Int32) → (Nat → Nat → Int32) → (Nat → Int32) → (Nat → Int32) → (Nat → Int32) → Prop}
    (hq : isN 2 a1 → ∀ (i : Nat) (e : DV), i < 2 → a1 = nI i → N i = some e → ∀ (db' de' df' : Nat → Int32) (dc' dp' dk' so' sn' : Int32) (sb' se' sf' : Nat → Nat → Int32) (sc' sp' sk' : Nat → Int32), SC (psh S d) so' sn' sb' se' sf' sc' sp' sk' → DC e db' de' df' dc' dp' dk' → Q db' de' df' dc' dp' dk' so' sn' sb' se' sf' sc' sp' sk')
    (h1 : ¬ isN 2 a1 → X "java/lang/IllegalArgumentException" db de df dc dp dk so sn sb se sf sc sp sk)
    (h2 : isN 2 a1 → ∀ i : Nat, i < 2 → a1 = nI i → N i = none → X "java/lang/IllegalStateException" db de df dc dp dk so sn sb se sf sc sp sk) : wx_X5_goBack db de df dc dp dk so sn sb se sf sc sp sk nb ne nf nc np nk tk a1 Q X := by
  unfold wx_X5_goBack
  refine s_reqS (fun hs => ?_) h1
  obtain ⟨i, hi, rfl⟩ := isN_of hs (by decide)
  have hv : vp_in (nI i) 2 := z_in hi (by decide)
  obtain ⟨ht, he⟩ := hN i hi
  rw [z_cl (by omega), ht]
  cases hNi : N i with
  | none => exact ⟨hv, fun hx => absurd rfl hx, fun _ => h2 hs i hi rfl hNi⟩
  | some e =>
    obtain ⟨hen, hde⟩ := he e hNi
    refine ⟨hv, fun _ => s_save hn hS hd (fun so' sn' sb' se' sf' sc' sp' sk' hS' => ⟨hv, ?_⟩), fun hx => by simp at hx⟩
    have key : ∀ k : Nat, i = k → wn_X1_copyFrom db de df dc dp dk (nb k) (ne k) (nf k) (nc k) (np k) (nk k) (fun db' de' df' dc' dp' dk' => Q db' de' df' dc' dp' dk' so' sn' sb' se' sf' sc' sp' sk') := by
      rintro k rfl
      exact s_copyDay hen hde (fun db' de' df' dc' dp' dk' hd' => hq hs i e hi rfl hNi _ _ _ _ _ _ _ _ _ _ _ _ _ _ hS' hd')
    exact ⟨fun h => key 0 ((nI_eq (by omega) (by decide)).mp h), fun h => key 1 ((nI_eq (by omega) (by decide)).mp h)⟩
theorem M_goBack (hn : vn d ≤ 14) {yn yb yk yi : Nat → Int32} {za zs a1 : Int32} (hN : NM N yk yi) (hS : MS S yb zs) (hd : DM d yn) {Q : (Nat → Int32) → (Nat → Int32) → Int32 → Int32 → Prop}
    (hq : isN 2 a1 → ∀ (i : Nat) (e : DV), i < 2 → a1 = nI i → N i = some e → ∀ (yn' yb' : Nat → Int32) (zs' : Int32), DM e yn' → MS (psh S d) yb' zs' → Q yn' yb' 0 zs')
    (h1 : ¬ isN 2 a1 → Q yn yb 1 zs)
    (h2 : isN 2 a1 → ∀ i : Nat, i < 2 → a1 = nI i → N i = none → Q yn yb 2 zs) : wn_X6_goBack yn yb yk yi za zs a1 Q := by
  unfold wn_X6_goBack wj_n_X6_goBack_26
  refine m_slot (fun hs => ⟨fun _ => ?_, fun hx => absurd hx (by decide)⟩) (fun hs => ⟨fun hx => absurd rfl hx, fun _ => m_refusedN (by decide) ⟨fun hx => absurd hx (by decide), fun _ => h1 hs⟩⟩)
  obtain ⟨i, hi, rfl⟩ := isN_of hs (by decide)
  have hv2 : vp_in (nI i) 2 := z_in hi (by decide)
  obtain ⟨ht, he⟩ := hN i hi
  rw [z_cl (by omega), ht]
  cases hNi : N i with
  | none => exact ⟨hv2, fun hx => absurd rfl hx, fun _ => m_refusedN (by decide) ⟨fun hx => absurd hx (by decide), fun _ => h2 hs i hi rfl hNi⟩⟩
  | some e =>
    obtain ⟨hen, hde⟩ := he e hNi
    refine ⟨hv2, fun _ => m_refused0 ⟨fun _ => m_save hn hS hd (fun yb' zs' hS' => ?_), fun hx => absurd rfl hx⟩, fun hx => by simp at hx⟩
    have key : ∀ (m k : Nat) (y : Nat → Int32), k + m = 45 → (∀ j, j < k → y j = yk (45 * i + j)) → wl_n_X6_goBack_39 yk yi Q (m + 1) y yb' 0 zs' (nI i) (nI k) := by
      intro m
      induction m with
      | zero =>
        intro k y hk h2
        rw [wl_n_X6_goBack_39, z_45, z_le (by omega) (by omega)]
        exact ⟨fun _ => hq hs i e hi rfl hNi _ _ _ (hde.ext hen (fun c hc => h2 c (by omega))) hS', fun hc => absurd (by omega) hc⟩
      | succ m ih =>
        intro k y hk h2
        have hv : vp_in (nI k) 45 := z_in (by omega) (by decide)
        have hv3 : vp_in (nI (45 * i + k)) 90 := z_in (by omega) (by decide)
        rw [wl_n_X6_goBack_39, z_45, z_le (by omega) (by omega), pk_mul, nI_add, nI_1 k, z_cl (n := k) (by omega), z_cl (n := 45 * i + k) (by omega)]
        refine ⟨fun hc => absurd hc (by omega), fun _ => ⟨hv3, hv, ih (k + 1) _ (by omega) (fun j hj => ?_)⟩⟩
        by_cases hjk : j = k
        · subst hjk; exact pk_us
        · rw [pk_un hjk]; exact h2 j (by omega)
    exact ⟨46, key 45 0 yn (by omega) (fun j hj => absurd hj (by omega))⟩
theorem S_undo {so sn : Int32} {sb se sf : Nat → Nat → Int32} {sc sp sk : Nat → Int32} (hS : SC S so sn sb se sf sc sp sk) {db de df : Nat → Int32} {dc dp dk : Int32} {Q : (Nat → Int32) → (Nat → Int32) → (Nat → Int32) → Int32 → Int32 → Int32 → Int32 → Prop} {X : String → (Nat → Int32) → (Nat → Int32) → (Nat → Int32) → Int32 → Int32 → Int32 → Int32 → Prop}
    (hq : ∀ (S' : List DV) (e : DV), S = S' ++ [e] → ∀ (db' de' df' : Nat → Int32) (dc' dp' dk' sn' : Int32), SC S' so sn' sb se sf sc sp sk → DC e db' de' df' dc' dp' dk' → Q db' de' df' dc' dp' dk' sn')
    (h1 : S = [] → X "java/lang/IllegalStateException" db de df dc dp dk sn) : wx_X5_undo db de df dc dp dk so sn sb se sf sc sp sk Q X := by
  unfold wx_X5_undo
  have hS0 := hS
  obtain ⟨o, -, -, rfl, hl, -⟩ := hS
  rcases List.eq_nil_or_concat S with rfl | ⟨S', e, rfl⟩
  · exact ⟨fun hx => absurd rfl hx, fun _ => h1 rfl⟩
  · rw [List.concat_eq_append] at hS0 hl ⊢
    have hle : (S' ++ [e]).length = S'.length + 1 := by simp
    refine ⟨fun _ => s_restore hS0 (fun sn' db' de' df' dc' dp' dk' hS' hd' => hq S' e (List.concat_eq_append ..) _ _ _ _ _ _ _ hS' hd'), fun hx => ?_⟩
    rw [z_0, z_eq (by omega) (by decide)] at hx
    omega
theorem M_undo {yn yb : Nat → Int32} {za zs : Int32} (hS : MS S yb zs) {Q : (Nat → Int32) → Int32 → Int32 → Prop}
    (hq : ∀ (S' : List DV) (e : DV), S = S' ++ [e] → ∀ (yn' : Nat → Int32) (zs' : Int32), DM e yn' → MS S' yb zs' → Q yn' 0 zs')
    (h1 : S = [] → Q yn 1 zs) : wn_X6_undo yn yb za zs Q := by
  unfold wn_X6_undo wj_n_X6_undo_13
  obtain ⟨rfl, hl, hSn, hS⟩ := hS
  rcases List.eq_nil_or_concat S with rfl | ⟨S', e, rfl⟩
  · exact ⟨fun hx => absurd rfl hx, fun _ => m_refusedN (by decide) ⟨fun hx => absurd hx (by decide), fun _ => h1 rfl⟩⟩
  · rw [List.concat_eq_append] at hS hl hSn ⊢
    have hle : (S' ++ [e]).length = S'.length + 1 := by simp
    have he := hS S'.length e (by simp)
    have hen : vn e ≤ 14 := hSn e (by simp)
    refine ⟨fun _ => m_refused0 ⟨fun _ => ?_, fun hx => absurd rfl hx⟩, fun hx => ?_⟩
    · rw [z_1, z_sub (by omega), hle, Nat.add_sub_cancel]
      have hMS : MS S' yb (nI S'.length) := ⟨rfl, by omega, fun e he => hSn e (List.mem_append_left _ he), fun i e hi => hS i e (by rw [List.getElem?_append_left (List.getElem?_eq_some_iff.mp hi).1]; exact hi)⟩
      have key : ∀ (m k : Nat) (y : Nat → Int32), k + m = 45 → (∀ j, j < k → y j = yb (45 * S'.length + j)) → wl_n_X6_undo_32 yb Q (m + 1) y 0 (nI S'.length) (nI k) := by
        intro m
        induction m with
        | zero =>
          intro k y hk h2
          rw [wl_n_X6_undo_32, z_45, z_le (by omega) (by omega)]
          exact ⟨fun _ => hq S' e (List.concat_eq_append ..) _ _ (he.ext hen (fun c hc => h2 c (by omega))) hMS, fun hc => absurd (by omega) hc⟩
        | succ m ih =>
          intro k y hk h2
          have hv : vp_in (nI k) 45 := z_in (by omega) (by decide)
          have hv3 : vp_in (nI (45 * S'.length + k)) 270 := z_in (by omega) (by decide)
          rw [wl_n_X6_undo_32, z_45, z_le (by omega) (by omega), pk_mul, nI_add, nI_1 k, z_cl (n := k) (by omega), z_cl (n := 45 * S'.length + k) (by omega)]
          refine ⟨fun hc => absurd hc (by omega), fun _ => ⟨hv3, hv, ih (k + 1) _ (by omega) (fun j hj => ?_)⟩⟩
          by_cases hjk : j = k
          · subst hjk; exact pk_us
          · rw [pk_un hjk]; exact h2 j (by omega)
      exact ⟨46, key 45 0 yn (by omega) (fun j hj => absurd hj (by omega))⟩
    · rw [z_0, z_eq (by omega) (by decide)] at hx
      omega
end
