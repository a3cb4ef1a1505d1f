/-! texts, snapshots, undo -/
/-- a text of n codes -/
def TC (n : Nat) (t : Nat → Nat) (tc : Nat → Int32) (tl : Int32) : Prop := tl = nI n ∧ n ≤ 60 ∧ ∀ k, k < n → tc k = nI (t k)
def TOK (n : Nat) (t : Nat → Nat) : Prop := n ≤ 60 ∧ ∀ k, k < n → 33 ≤ t k ∧ t k ≤ 126
def isC (x : Int32) : Prop := 33 ≤ x.toInt ∧ x.toInt ≤ 126
theorem ti33 : (33 : Int32).toInt = 33 := by decide
theorem ti126 : (126 : Int32).toInt = 126 := by decide
theorem l64_33 : (33 : Int64).toInt = 33 := by decide
theorem l64_126 : (126 : Int64).toInt = 126 := by decide
theorem z_60 : (60 : Int32) = nI 60 := rfl
theorem isC_of {x : Int32} (h : isC x) : ∃ c : Nat, x = nI c ∧ 33 ≤ c ∧ c ≤ 126 := by
  obtain ⟨h1, h2⟩ := h
  have hx : ¬ x < 0 := by rw [Int32.lt_iff_toInt_lt, ti0]; omega
  obtain ⟨b, hb, rfl⟩ := nI_of hx
  rw [nI_toInt hb] at h1 h2
  exact ⟨b, rfl, by omega, by omega⟩
theorem TC.put {n : Nat} {t : Nat → Nat} {tc : Nat → Int32} {tl : Int32} (h : TC n t tc tl) (hn : n < 60) (c : Nat) : TC (n + 1) (upN t n c) (upd tc n (nI c)) (nI (n + 1)) := by
  obtain ⟨h1, h2, h3⟩ := h
  refine ⟨rfl, by omega, fun k hk => ?_⟩
  by_cases hkn : k = n
  · subst hkn; rw [pk_us, upN_s]
  · rw [pk_un hkn, upN_n hkn]; exact h3 k (by omega)
theorem S_append {n : Nat} {t : Nat → Nat} {tc : Nat → Int32} {tl a1 : Int32} (ht : TC n t tc tl) {Q : Int32 → (Nat → Int32) → Int32 → Prop} {X : String → (Nat → Int32) → Int32 → Prop}
    (hq : isC a1 → n < 60 → ∀ (c : Nat) (tc' : Nat → Int32), a1 = nI c → 33 ≤ c → c ≤ 126 → TC (n + 1) (upN t n c) tc' (nI (n + 1)) → Q (nI (n + 1)) tc' (nI (n + 1)))
    (h1 : ¬ isC a1 → X "java/lang/IllegalArgumentException" tc tl)
    (h2 : isC a1 → ¬ n < 60 → X "java/lang/IllegalStateException" tc tl) : wx_X5_append tc tl a1 Q X := by
  have ht0 := ht
  obtain ⟨rfl, hn, h3⟩ := ht
  unfold wx_X5_append wj_x_X5_append_12 wn_X4_put
  rw [Int32.lt_iff_toInt_lt, Int32.le_iff_toInt_le, ti33, ti126]
  refine ⟨fun hc => h1 (fun h => by have := h.1; omega), fun hc => ⟨fun hc2 => ?_, fun hc2 => h1 (fun h => by have := h.2; omega)⟩⟩
  have hC : isC a1 := ⟨by omega, hc2⟩
  rw [z_60, z_lt (by omega) (by decide)]
  refine ⟨fun h6 => ?_, fun h6 => h2 hC h6⟩
  obtain ⟨c, rfl, hc3, hc4⟩ := isC_of hC
  have hv : vp_in (nI n) 60 := z_in h6 (by decide)
  rw [z_cl (by omega), nI_1]
  exact ⟨hv, hq hC h6 c _ rfl hc3 hc4 (ht0.put h6 c)⟩
/-- the snapshots as the class holds them -/
def NC (N : Nat → Option DV) (nb ne nf : Nat → Nat → Int32) (nc np nk tk : Nat → Int32) : Prop :=
  ∀ i, i < 2 → tk i = (if (N i).isSome = true then 1 else 0) ∧ ∀ e, N i = some e → vn e ≤ 14 ∧ DC e (nb i) (ne i) (nf i) (nc i) (np i) (nk i)
def NM (N : Nat → Option DV) (yk yi : Nat → Int32) : Prop :=
  ∀ i, i < 2 → yi i = (if (N i).isSome = true then 1 else 0) ∧ ∀ e, N i = some e → vn e ≤ 14 ∧ DM e (fun k => yk (45 * i + k))
def upO (N : Nat → Option DV) (i : Nat) (d : DV) : Nat → Option DV := fun j => if j = i then some d else N j
theorem nar1 : vp_nar .boolean (1 : Int32) = 1 := by decide
theorem S_keep {N : Nat → Option DV} {d : DV} (hn : vn d ≤ 14) {nb ne nf : Nat → Nat → Int32} {nc np nk tk : Nat → Int32} (hN : NC N nb ne nf nc np nk tk) {db de df : Nat → Int32} {dc dp dk a1 : Int32} (hd : DC d db de df dc dp dk) {Q : (Nat → Nat → Int32) → (Nat → Nat → Int32) → (Nat → Nat → Int32) → (Nat → Int32) → (Nat → Int32) → (Nat → Int32) → (Nat → Int32) → Prop} {X : String → (Nat → Nat → Int32) → (Nat → Nat → Int32) → (Nat → Nat → Int32) → (Nat → Int32) → (Nat → Int32) → (Nat → Int32) → (Nat → Int32) → Prop}
    (hq : ∀ i : Nat, i < 2 → a1 = nI i → ∀ (nb' ne' nf' : Nat → Nat → Int32) (nc' np' nk' tk' : Nat → Int32), NC (upO N i d) nb' ne' nf' nc' np' nk' tk' → Q nb' ne' nf' nc' np' nk' tk')
    (h1 : ¬ isN 2 a1 → X "java/lang/IllegalArgumentException" nb ne nf nc np nk tk) : wx_X5_keep db de df dc dp dk nb ne nf nc np nk tk a1 Q X := by
  unfold wx_X5_keep
  refine s_reqS (fun hs => ?_) h1
  obtain ⟨i, hi, rfl⟩ := isN_of hs (by decide)
  have hv : vp_in (nI i) 2 := z_in hi (by decide)
  have key : ∀ k : Nat, i = k → wn_X1_copyFrom (nb k) (ne k) (nf k) (nc k) (np k) (nk k) db de df dc dp dk (fun db' de' df' dc' dp' dk' => (vp_in (nI i) 2 ∧ (Q (va_up nb k db') (va_up ne k de') (va_up nf k df') (va_up nc k dc') (va_up np k dp') (va_up nk k dk') (upd tk (nI i).toNatClampNeg (vp_nar .boolean (1 : Int32)))))) := by
    rintro k rfl
    refine s_copyDay hn hd (fun db' de' df' dc' dp' dk' hd' => ⟨hv, hq i hi rfl _ _ _ _ _ _ _ ?_⟩)
    rw [z_cl (by omega), nar1]
    intro j hj
    by_cases hji : j = i
    · subst hji
      simp only [va_up, if_pos, pk_us, upO]
      refine ⟨rfl, fun e he => ?_⟩
      cases he
      exact ⟨hn, hd'⟩
    · rw [pk_un hji]
      simp only [va_up, upO, if_neg hji]
      exact hN j hj
  refine ⟨hv, fun h => key 0 ((nI_eq (by omega) (by decide)).mp h), fun h => key 1 ((nI_eq (by omega) (by decide)).mp h)⟩
section
variable {N : Nat → Option DV} {S : List DV} {d : DV}
theorem S_goBack (hn : vn d ≤ 14) {so sn : Int32} {sb se sf : Nat → Nat → Int32} {sc sp sk : Nat → Int32} {nb ne nf : Nat → Nat → Int32} {nc np nk tk : Nat → Int32} (hN : NC N nb ne nf nc np nk tk) (hS : SC S so sn sb se sf sc sp sk) {db de df : Nat → Int32} {dc dp dk a1 : Int32} (hd : DC d db de df dc dp dk) {Q : (Nat → Int32) → (Nat → Int32) → (Nat → Int32) → Int32 → Int32 → Int32 → Int32 → Int32 → (Nat → Nat → Int32) → (Nat → Nat → Int32) → (Nat → Nat → Int32) → (Nat → Int32) → (Nat → Int32) → (Nat → Int32) → Prop} {X : String → (Nat → Int32) → (Nat → Int32) → (Nat → Int32) → Int32 → Int32 → Int32 → Int32 → Int32 → (Nat → Nat → Int32) → (Nat → Nat → Int32) → (Nat → Nat → Int32) → (Nat → Int32) → (Nat → Int32) → (Nat → Int32) → Prop}
    (hq : isN 2 a1 → ∀ (i : Nat) (e : DV), i < 2 → a1 = nI i → N i = some e → ∀ (db' de' df' : Nat → Int32) (dc' dp' dk' so' sn' : Int32) (sb' se' sf' : Nat → Nat → Int32) (sc' sp' sk' : Nat → Int32), SC (psh S d) so' sn' sb' se' sf' sc' sp' sk' → DC e db' de' df' dc' dp' dk' → Q db' de' df' dc' dp' dk' so' sn' sb' se' sf' sc' sp' sk')
    (h1 : ¬ isN 2 a1 → X "java/lang/IllegalArgumentException" db de df dc dp dk so sn sb se sf sc sp sk)
    (h2 : isN 2 a1 → ∀ i : Nat, i < 2 → a1 = nI i → N i = none → X "java/lang/IllegalStateException" db de df dc dp dk so sn sb se sf sc sp sk) : wx_X5_goBack db de df dc dp dk so sn sb se sf sc sp sk nb ne nf nc np nk tk a1 Q X := by
  unfold wx_X5_goBack
  refine s_reqS (fun hs => ?_) h1
  obtain ⟨i, hi, rfl⟩ := isN_of hs (by decide)
  have hv : vp_in (nI i) 2 := z_in hi (by decide)
  obtain ⟨ht, he⟩ := hN i hi
  rw [z_cl (by omega), ht]
  cases hNi : N i with
  | none => exact ⟨hv, fun hx => absurd rfl hx, fun _ => h2 hs i hi rfl hNi⟩
  | some e =>
    obtain ⟨hen, hde⟩ := he e hNi
    refine ⟨hv, fun _ => s_save hn hS hd (fun so' sn' sb' se' sf' sc' sp' sk' hS' => ⟨hv, ?_⟩), fun hx => by simp at hx⟩
    have key : ∀ k : Nat, i = k → wn_X1_copyFrom db de df dc dp dk (nb k) (ne k) (nf k) (nc k) (np k) (nk k) (fun db' de' df' dc' dp' dk' => Q db' de' df' dc' dp' dk' so' sn' sb' se' sf' sc' sp' sk') := by
      rintro k rfl
      exact s_copyDay hen hde (fun db' de' df' dc' dp' dk' hd' => hq hs i e hi rfl hNi _ _ _ _ _ _ _ _ _ _ _ _ _ _ hS' hd')
    exact ⟨fun h => key 0 ((nI_eq (by omega) (by decide)).mp h), fun h => key 1 ((nI_eq (by omega) (by decide)).mp h)⟩
theorem S_undo {so sn : Int32} {sb se sf : Nat → Nat → Int32} {sc sp sk : Nat → Int32} (hS : SC S so sn sb se sf sc sp sk) {db de df : Nat → Int32} {dc dp dk : Int32} {Q : (Nat → Int32) → (Nat → Int32) → (Nat → Int32) → Int32 → Int32 → Int32 → Int32 → Prop} {X : String → (Nat → Int32) → (Nat → Int32) → (Nat → Int32) → Int32 → Int32 → Int32 → Int32 → Prop}
    (hq : ∀ (S' : List DV) (e : DV), S = S' ++ [e] → ∀ (db' de' df' : Nat → Int32) (dc' dp' dk' sn' : Int32), SC S' so sn' sb se sf sc sp sk → DC e db' de' df' dc' dp' dk' → Q db' de' df' dc' dp' dk' sn')
    (h1 : S = [] → X "java/lang/IllegalStateException" db de df dc dp dk sn) : wx_X5_undo db de df dc dp dk so sn sb se sf sc sp sk Q X := by
  unfold wx_X5_undo
  have hS0 := hS
  obtain ⟨o, -, -, rfl, hl, -⟩ := hS
  rcases List.eq_nil_or_concat S with rfl | ⟨S', e, rfl⟩
  · exact ⟨fun hx => absurd rfl hx, fun _ => h1 rfl⟩
  · rw [List.concat_eq_append] at hS0 hl ⊢
    have hle : (S' ++ [e]).length = S'.length + 1 := by simp
    refine ⟨fun _ => s_restore hS0 (fun sn' db' de' df' dc' dp' dk' hS' hd' => hq S' e (List.concat_eq_append ..) _ _ _ _ _ _ _ hS' hd'), fun hx => ?_⟩
    rw [z_0, z_eq (by omega) (by decide)] at hx
    omega
end
