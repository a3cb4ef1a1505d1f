/-! the class's calls that change a day -/
theorem DC.mov {d : DV} {db de df : Nat → Int32} {dc dp dk : Int32} (h : DC d db de df dc dp dk) (r b e : Nat) : DC (movD d r b e) (upd db r (nI b)) (upd de r (nI e)) df dc dp dk := by
  obtain ⟨h1, h2, h3, h4⟩ := h
  refine ⟨h1, h2, h3, fun k hk => ?_⟩
  obtain ⟨a1, a2, a3⟩ := h4 k hk
  show upd db r (nI b) k = nI (upN (vB d) r b k) ∧ upd de r (nI e) k = nI (upN (vE d) r e k) ∧ _
  by_cases hkr : k = r
  · subst hkr; rw [pk_us, pk_us, upN_s, upN_s]; exact ⟨rfl, rfl, a3⟩
  · rw [pk_un hkr, pk_un hkr, upN_n hkr, upN_n hkr]; exact ⟨a1, a2, a3⟩
theorem DC.fam {d : DV} {db de df : Nat → Int32} {dc dp dk : Int32} (h : DC d db de df dc dp dk) (r f : Nat) : DC (famD d r f) db de (upd df r (nI f)) dc dp dk := by
  obtain ⟨h1, h2, h3, h4⟩ := h
  refine ⟨h1, h2, h3, fun k hk => ?_⟩
  obtain ⟨a1, a2, a3⟩ := h4 k hk
  show _ ∧ _ ∧ upd df r (nI f) k = nI (upN (vF d) r f k)
  by_cases hkr : k = r
  · subst hkr; rw [pk_us, upN_s]; exact ⟨a1, a2, rfl⟩
  · rw [pk_un hkr, upN_n hkr]; exact ⟨a1, a2, a3⟩
theorem DC.pau {d : DV} {db de df : Nat → Int32} {dc dp dk : Int32} (h : DC d db de df dc dp dk) (q : Nat) : DC (pauD d q) db de df dc (nI q) dk := ⟨h.1, rfl, h.2.2.1, h.2.2.2⟩
theorem DC.boo {d : DV} {db de df : Nat → Int32} {dc dp dk : Int32} (h : DC d db de df dc dp dk) (S : Nat) : DC (booD d S) db de df dc dp (nI S) := ⟨h.1, h.2.1, rfl, h.2.2.2⟩
section
variable {S : List DV} {d : DV} {so sn : Int32} {sb se sf : Nat → Nat → Int32} {sc sp sk : Nat → Int32} {db de df : Nat → Int32} {dc dp dk : Int32}
theorem S_add (ok : DOK d) (hS : SC S so sn sb se sf sc sp sk) (hd : DC d db de df dc dp dk) {a1 a2 a3 : Int32} {Q : Int32 → (Nat → Int32) → (Nat → Int32) → (Nat → Int32) → Int32 → Int32 → Int32 → (Nat → Nat → Int32) → (Nat → Nat → Int32) → (Nat → Nat → Int32) → (Nat → Int32) → (Nat → Int32) → (Nat → Int32) → Prop} {X : String → (Nat → Int32) → (Nat → Int32) → (Nat → Int32) → Int32 → Int32 → Int32 → (Nat → Nat → Int32) → (Nat → Nat → Int32) → (Nat → Nat → Int32) → (Nat → Int32) → (Nat → Int32) → (Nat → Int32) → Prop}
    (hq : isT a1 a2 → isF a3 → vn d < 14 → ∀ b e f : Nat, a1 = nI b → a2 = nI e → a3 = nI f → b < e → e ≤ 96 → 1 ≤ f → f ≤ 50 → ∀ (so' sn' : Int32) (sb' se' sf' : Nat → Nat → Int32) (sc' sp' sk' : Nat → Int32) (db' de' df' : Nat → Int32) (dc' : Int32), SC (psh S d) so' sn' sb' se' sf' sc' sp' sk' → DC (addD d b e f) db' de' df' dc' dp dk → Q (nI (vn d)) db' de' df' dc' so' sn' sb' se' sf' sc' sp' sk')
    (h1 : ¬ (isT a1 a2 ∧ isF a3) → X "java/lang/IllegalArgumentException" db de df dc so sn sb se sf sc sp sk)
    (h2 : isT a1 a2 → isF a3 → ¬ vn d < 14 → X "java/lang/IllegalStateException" db de df dc so sn sb se sf sc sp sk) : wx_X5_add db de df dc dp dk so sn sb se sf sc sp sk a1 a2 a3 Q X := by
  have hn := ok.1
  refine s_reqT (fun hT => s_reqF (fun hF => ?_) (fun hF => h1 (fun h => hF h.2))) (fun hT => h1 (fun h => hT h.1))
  have hdc : dc = nI (vn d) := hd.1
  rw [hdc]
  refine s_reqP (k := 1) hn (by decide) (fun hp => ?_) (fun hp => hdc ▸ h2 hT hF (by omega))
  rw [← hdc]
  obtain ⟨b, e, rfl, rfl, hbe, he⟩ := isT_of hT
  obtain ⟨f, rfl, hf1, hf2⟩ := isF_of hF
  refine s_save hn hS hd (fun so' sn' sb' se' sf' sc' sp' sk' hS' => s_takeOn (by omega) hd (fun db' de' df' dc' hd' => ?_))
  have e1 : dc' - (1 : Int32) = nI (vn d) := by
    rw [hd'.1, z_1]
    show nI (vn d + 1) - nI 1 = _
    rw [z_sub (by omega)]; rfl
  rw [e1]
  exact hq hT hF (by omega) b e f rfl rfl rfl hbe he hf1 hf2 _ _ _ _ _ _ _ _ _ _ _ _ hS' hd'
theorem S_strike (ok : DOK d) (hS : SC S so sn sb se sf sc sp sk) (hd : DC d db de df dc dp dk) {a1 : Int32} {Q : Int32 → (Nat → Int32) → (Nat → Int32) → (Nat → Int32) → Int32 → Int32 → Int32 → Int32 → (Nat → Nat → Int32) → (Nat → Nat → Int32) → (Nat → Nat → Int32) → (Nat → Int32) → (Nat → Int32) → (Nat → Int32) → Prop} {X : String → (Nat → Int32) → (Nat → Int32) → (Nat → Int32) → Int32 → Int32 → Int32 → Int32 → (Nat → Nat → Int32) → (Nat → Nat → Int32) → (Nat → Nat → Int32) → (Nat → Int32) → (Nat → Int32) → (Nat → Int32) → Prop}
    (hq : ∀ r : Nat, a1 = nI r → r < vn d → ∀ (so' sn' : Int32) (sb' se' sf' : Nat → Nat → Int32) (sc' sp' sk' : Nat → Int32) (db' de' df' : Nat → Int32) (dc' dk' : Int32), SC (psh S d) so' sn' sb' se' sf' sc' sp' sk' → DC (delD d r) db' de' df' dc' dp dk' → Q (nI (vF d r)) db' de' df' dc' dk' so' sn' sb' se' sf' sc' sp' sk')
    (h1 : ¬ isN (vn d) a1 → X "java/lang/IndexOutOfBoundsException" db de df dc dk so sn sb se sf sc sp sk) : wx_X5_strike db de df dc dp dk so sn sb se sf sc sp sk a1 Q X := by
  have hn := ok.1
  unfold wx_X5_strike
  have hdc : dc = nI (vn d) := hd.1
  have go := s_reqR (n := vn d) (x := a1) hn
    (Q := vp_in a1 14 ∧ wn_X3_save so sn sb se sf sc sp sk db de df dc dp dk (fun so_2 sn_3 sb_4 se_5 sf_6 sc_7 sp_8 sk_9 => wn_X1_takeOut db de df dc dk a1 (fun db_10 de_11 df_12 dc_13 dk_14 => Q (df a1.toNatClampNeg) db_10 de_11 df_12 dc_13 dk_14 so_2 sn_3 sb_4 se_5 sf_6 sc_7 sp_8 sk_9)))
    (X := fun E => X E db de df dc dk so sn sb se sf sc sp sk) (fun hr0 => ?_) h1
  · rw [← hdc] at go; exact go
  obtain ⟨r, hr, rfl⟩ := isN_of hr0 (by omega)
  refine ⟨z_in (by omega) (by decide), s_save hn hS hd (fun so' sn' sb' se' sf' sc' sp' sk' hS' => s_takeOut hn ok.K hr hd (fun db' de' df' dc' dk' hd' => ?_))⟩
  rw [z_cl (by omega), (hd.2.2.2 r hr).2.2]
  exact hq r rfl hr _ _ _ _ _ _ _ _ _ _ _ _ _ hS' hd'
theorem S_move (ok : DOK d) (hS : SC S so sn sb se sf sc sp sk) (hd : DC d db de df dc dp dk) {a1 a2 a3 : Int32} {Q : Int32 → (Nat → Int32) → (Nat → Int32) → Int32 → Int32 → (Nat → Nat → Int32) → (Nat → Nat → Int32) → (Nat → Nat → Int32) → (Nat → Int32) → (Nat → Int32) → (Nat → Int32) → Prop} {X : String → (Nat → Int32) → (Nat → Int32) → Int32 → Int32 → (Nat → Nat → Int32) → (Nat → Nat → Int32) → (Nat → Nat → Int32) → (Nat → Int32) → (Nat → Int32) → (Nat → Int32) → Prop}
    (hq : isN (vn d) a1 → isT a2 a3 → ∀ r b e : Nat, a1 = nI r → r < vn d → a2 = nI b → a3 = nI e → b < e → e ≤ 96 → chO (vP d) (upN (vB d) r b) (upN (vE d) r e) (vn d) (vK d) → ∀ (so' sn' : Int32) (sb' se' sf' : Nat → Nat → Int32) (sc' sp' sk' : Nat → Int32) (db' de' : Nat → Int32), SC (psh S d) so' sn' sb' se' sf' sc' sp' sk' → DC (movD d r b e) db' de' df dc dp dk → Q (nI (e - b) - nI (vE d r - vB d r)) db' de' so' sn' sb' se' sf' sc' sp' sk')
    (h1 : ¬ isN (vn d) a1 → X "java/lang/IndexOutOfBoundsException" db de so sn sb se sf sc sp sk)
    (h2 : isN (vn d) a1 → ¬ isT a2 a3 → X "java/lang/IllegalArgumentException" db de so sn sb se sf sc sp sk)
    (h3 : isN (vn d) a1 → isT a2 a3 → ∀ r b e : Nat, a1 = nI r → r < vn d → a2 = nI b → a3 = nI e → b < e → e ≤ 96 → ¬ chO (vP d) (upN (vB d) r b) (upN (vE d) r e) (vn d) (vK d) → X "java/lang/IllegalStateException" db de so sn sb se sf sc sp sk) : wx_X5_move db de df dc dp dk so sn sb se sf sc sp sk a1 a2 a3 Q X := by
  have hn := ok.1
  have hdc : dc = nI (vn d) := hd.1
  unfold wx_X5_move
  suffices go : ∀ c : Int32, c = nI (vn d) → wx_X5_requireRehearsal c a1 (wx_X5_requireTimes a2 a3 (wn_X1_hasBooked dk a1 (fun r1 => ((r1 = 0 → (wj_x_X5_move_44 df dc dp dk Q X db de so sn sb se sf sc sp sk a1 a2 a3)) ∧ (¬ r1 = 0 → (wn_X1_bookingsAllow db de dc dp dk a1 a2 a3 (fun r15 => ((¬ r15 = 0 → (wj_x_X5_move_44 df dc dp dk Q X db de so sn sb se sf sc sp sk a1 a2 a3)) ∧ (r15 = 0 → (X "java/lang/IllegalStateException" db de so sn sb se sf sc sp sk))))))))) (fun E => X E db de so sn sb se sf sc sp sk)) (fun E => X E db de so sn sb se sf sc sp sk) from go dc hdc
  rintro c rfl
  refine s_reqR hn (fun hr0 => s_reqT (fun hT => ?_) (fun hT => h2 hr0 hT)) h1
  obtain ⟨r, hr, rfl⟩ := isN_of hr0 (by omega)
  obtain ⟨b, e, rfl, rfl, hbe, he⟩ := isT_of hT
  have h44 : chO (vP d) (upN (vB d) r b) (upN (vE d) r e) (vn d) (vK d) → wj_x_X5_move_44 df dc dp dk Q X db de so sn sb se sf sc sp sk (nI r) (nI b) (nI e) := by
    intro hc
    unfold wj_x_X5_move_44
    have hv : vp_in (nI r) 14 := z_in (by omega) (by decide)
    refine s_quartersOf (hd.r ok) hr (s_save hn hS hd (fun so' sn' sb' se' sf' sc' sp' sk' hS' => ⟨hv, hv, ?_⟩))
    rw [z_cl (by omega)]
    have hm : DC (movD d r b e) (upd db r (nI b)) (upd de r (nI e)) df dc dp dk := hd.mov r b e
    have hok : DOK (movD d r b e) := ok.mov hr hbe he hc
    refine s_quartersOf (i := r) (hm.r hok) hr ?_
    have e1 : vE (movD d r b e) r - vB (movD d r b e) r = e - b := by
      show upN (vE d) r e r - upN (vB d) r b r = e - b
      rw [upN_s, upN_s]
    rw [e1]
    exact hq hr0 hT r b e rfl hr rfl rfl hbe he hc _ _ _ _ _ _ _ _ _ _ hS' hm
  have hmc := chO_mov ok.2.2.2.2 (r := r) (b := b) (e := e) hr
  unfold wn_X1_hasBooked
  rw [hd.2.2.1]
  refine s_isIn ok.K31 (by omega) ?_
  rw [← hd.2.2.1]
  cases hb : (vK d).testBit r
  · exact ⟨fun _ => h44 (hmc.mpr (fun hx => by rw [hb] at hx; cases hx)), fun hx => absurd rfl hx⟩
  · refine ⟨fun hx => absurd hx (by decide), fun _ => s_bookingsAllow ok (by omega) (by omega) (by omega) hd ?_⟩
    cases ha : alw d r b e
    · refine ⟨fun hx => absurd rfl hx, fun _ => h3 hr0 hT r b e rfl hr rfl rfl hbe he (fun hx => ?_)⟩
      have := hmc.mp hx hb
      rw [ha] at this; cases this
    · exact ⟨fun _ => h44 (hmc.mpr (fun _ => ha)), fun hx => absurd hx (by decide)⟩
theorem S_changeFame (ok : DOK d) (hS : SC S so sn sb se sf sc sp sk) (hd : DC d db de df dc dp dk) {a1 a2 : Int32} {Q : Int32 → (Nat → Int32) → Int32 → Int32 → (Nat → Nat → Int32) → (Nat → Nat → Int32) → (Nat → Nat → Int32) → (Nat → Int32) → (Nat → Int32) → (Nat → Int32) → Prop} {X : String → (Nat → Int32) → Int32 → Int32 → (Nat → Nat → Int32) → (Nat → Nat → Int32) → (Nat → Nat → Int32) → (Nat → Int32) → (Nat → Int32) → (Nat → Int32) → Prop}
    (hq : isN (vn d) a1 → isF a2 → ∀ r f : Nat, a1 = nI r → r < vn d → a2 = nI f → 1 ≤ f → f ≤ 50 → ∀ (so' sn' : Int32) (sb' se' sf' : Nat → Nat → Int32) (sc' sp' sk' : Nat → Int32) (df' : Nat → Int32), SC (psh S d) so' sn' sb' se' sf' sc' sp' sk' → DC (famD d r f) db de df' dc dp dk → Q (nI (vF d r)) df' so' sn' sb' se' sf' sc' sp' sk')
    (h1 : ¬ isN (vn d) a1 → X "java/lang/IndexOutOfBoundsException" df so sn sb se sf sc sp sk)
    (h2 : isN (vn d) a1 → ¬ isF a2 → X "java/lang/IllegalArgumentException" df so sn sb se sf sc sp sk) : wx_X5_changeFame db de df dc dp dk so sn sb se sf sc sp sk a1 a2 Q X := by
  have hn := ok.1
  have hdc : dc = nI (vn d) := hd.1
  unfold wx_X5_changeFame
  suffices go : ∀ c : Int32, c = nI (vn d) → wx_X5_requireRehearsal c a1 (wx_X5_requireFame a2 (vp_in a1 14 ∧ (wn_X3_save so sn sb se sf sc sp sk db de df dc dp dk (fun so_2 sn_3 sb_4 se_5 sf_6 sc_7 sp_8 sk_9 => (vp_in a1 14 ∧ (Q (df a1.toNatClampNeg) (upd df a1.toNatClampNeg a2) so_2 sn_3 sb_4 se_5 sf_6 sc_7 sp_8 sk_9))))) (fun E => X E df so sn sb se sf sc sp sk)) (fun E => X E df so sn sb se sf sc sp sk) from go dc hdc
  rintro c rfl
  refine s_reqR hn (fun hr0 => s_reqF (fun hF => ?_) (fun hF => h2 hr0 hF)) h1
  obtain ⟨r, hr, rfl⟩ := isN_of hr0 (by omega)
  obtain ⟨f, rfl, hf1, hf2⟩ := isF_of hF
  have hv : vp_in (nI r) 14 := z_in (by omega) (by decide)
  refine ⟨hv, s_save hn hS hd (fun so' sn' sb' se' sf' sc' sp' sk' hS' => ⟨hv, ?_⟩)⟩
  rw [z_cl (by omega), (hd.2.2.2 r hr).2.2]
  exact hq hr0 hF r f rfl hr rfl hf1 hf2 _ _ _ _ _ _ _ _ _ hS' (hd.fam r f)
def isP (x : Int32) : Prop := 0 ≤ x.toInt ∧ x.toInt ≤ 8
theorem isP_of {x : Int32} (h : isP x) : ∃ q : Nat, x = nI q ∧ q ≤ 8 := by
  obtain ⟨h1, h2⟩ := h
  have hx : ¬ x < 0 := by rw [Int32.lt_iff_toInt_lt, ti0]; omega
  obtain ⟨b, hb, rfl⟩ := nI_of hx
  rw [nI_toInt hb] at h1 h2
  exact ⟨b, rfl, by omega⟩
theorem S_changePause (ok : DOK d) (hS : SC S so sn sb se sf sc sp sk) (hd : DC d db de df dc dp dk) {a1 : Int32} {Q : Int32 → Int32 → Int32 → Int32 → (Nat → Nat → Int32) → (Nat → Nat → Int32) → (Nat → Nat → Int32) → (Nat → Int32) → (Nat → Int32) → (Nat → Int32) → Prop} {X : String → Int32 → Int32 → Int32 → (Nat → Nat → Int32) → (Nat → Nat → Int32) → (Nat → Nat → Int32) → (Nat → Int32) → (Nat → Int32) → (Nat → Int32) → Prop}
    (hq : isP a1 → ∀ q : Nat, a1 = nI q → q ≤ 8 → chO q (vB d) (vE d) (vn d) (vK d) → ∀ (so' sn' : Int32) (sb' se' sf' : Nat → Nat → Int32) (sc' sp' sk' : Nat → Int32), SC (psh S d) so' sn' sb' se' sf' sc' sp' sk' → DC (pauD d q) db de df dc a1 dk → Q (nI (vP d)) a1 so' sn' sb' se' sf' sc' sp' sk')
    (h1 : ¬ isP a1 → X "java/lang/IllegalArgumentException" dp so sn sb se sf sc sp sk)
    (h2 : isP a1 → ∀ q : Nat, a1 = nI q → q ≤ 8 → ¬ chO q (vB d) (vE d) (vn d) (vK d) → X "java/lang/IllegalStateException" dp so sn sb se sf sc sp sk) : wx_X5_changePause db de df dc dp dk so sn sb se sf sc sp sk a1 Q X := by
  have hn := ok.1
  unfold wx_X5_changePause wj_x_X5_changePause_10
  refine ⟨fun hc => h1 (fun h => ?_), fun hc => ⟨fun hc2 => ?_, fun hc2 => h1 (fun h => ?_)⟩⟩
  · rw [Int32.lt_iff_toInt_lt, ti0] at hc; have := h.1; omega
  · have hP : isP a1 := by
      rw [Int32.lt_iff_toInt_lt, ti0] at hc
      rw [Int32.le_iff_toInt_le, ti8] at hc2
      exact ⟨by omega, by omega⟩
    obtain ⟨q, rfl, hq8⟩ := isP_of hP
    refine s_bookingsAllowPause ok (by omega) hd ?_
    have ha := alp_iff d q
    cases hb : alp d q
    · refine ⟨fun hx => absurd rfl hx, fun _ => h2 hP q rfl hq8 (fun hx => ?_)⟩
      rw [ha.mpr hx] at hb; cases hb
    · refine ⟨fun _ => s_save hn hS hd (fun so' sn' sb' se' sf' sc' sp' sk' hS' => ?_), fun hx => absurd hx (by decide)⟩
      rw [hd.2.1]
      exact hq hP q rfl hq8 (ha.mp hb) _ _ _ _ _ _ _ _ hS' (hd.pau q)
  · rw [Int32.le_iff_toInt_le, ti8] at hc2; have := h.2; omega
theorem S_book (ok : DOK d) (hS : SC S so sn sb se sf sc sp sk) (hd : DC d db de df dc dp dk) {a1 : Int32} {Q : Int32 → Int32 → Int32 → Int32 → (Nat → Nat → Int32) → (Nat → Nat → Int32) → (Nat → Nat → Int32) → (Nat → Int32) → (Nat → Int32) → (Nat → Int32) → Prop} {X : String → Int32 → Int32 → Int32 → (Nat → Nat → Int32) → (Nat → Nat → Int32) → (Nat → Nat → Int32) → (Nat → Int32) → (Nat → Int32) → (Nat → Int32) → Prop}
    (hq : isN (vn d) a1 → ∀ r : Nat, a1 = nI r → r < vn d → (vK d).testBit r = false → mk (cl (vP d) (vB d) (vE d) r) (vn d) &&& vK d = 0 → ∀ (so' sn' : Int32) (sb' se' sf' : Nat → Nat → Int32) (sc' sp' sk' : Nat → Int32) (dk' : Int32), SC (psh S d) so' sn' sb' se' sf' sc' sp' sk' → DC (booD d (vK d ||| 2 ^ r)) db de df dc dp dk' → Q (nI (su (vK d ||| 2 ^ r) (vF d) (vn d))) dk' so' sn' sb' se' sf' sc' sp' sk')
    (h1 : ¬ isN (vn d) a1 → X "java/lang/IndexOutOfBoundsException" dk so sn sb se sf sc sp sk)
    (h2 : isN (vn d) a1 → ∀ r : Nat, a1 = nI r → r < vn d → ¬ ((vK d).testBit r = false ∧ mk (cl (vP d) (vB d) (vE d) r) (vn d) &&& vK d = 0) → X "java/lang/IllegalStateException" dk so sn sb se sf sc sp sk) : wx_X5_book db de df dc dp dk so sn sb se sf sc sp sk a1 Q X := by
  have hn := ok.1
  have hdc : dc = nI (vn d) := hd.1
  have hdk : dk = nI (vK d) := hd.2.2.1
  unfold wx_X5_book
  suffices go : ∀ c : Int32, c = nI (vn d) → wx_X5_requireRehearsal c a1 (wn_X1_hasBooked dk a1 (fun r1 => ((r1 = 0 → (wn_X1_conflictsWith db de dc dp a1 (fun r3 => (((r3 &&& dk) = 0 → (wn_X3_save so sn sb se sf sc sp sk db de df dc dp dk (fun so_5 sn_6 sb_7 se_8 sf_9 sc_10 sp_11 sk_12 => (wn_X5_bit a1 (fun r13 => (wn_X1_fameOfSet df dc (dk ||| r13) (fun r14 => (Q r14 (dk ||| r13) so_5 sn_6 sb_7 se_8 sf_9 sc_10 sp_11 sk_12)))))))) ∧ (¬ (r3 &&& dk) = 0 → (X "java/lang/IllegalStateException" dk so sn sb se sf sc sp sk)))))) ∧ (¬ r1 = 0 → (X "java/lang/IllegalStateException" dk so sn sb se sf sc sp sk))))) (fun E => X E dk so sn sb se sf sc sp sk) from go dc hdc
  rintro c rfl
  refine s_reqR hn (fun hr0 => ?_) h1
  obtain ⟨r, hr, rfl⟩ := isN_of hr0 (by omega)
  unfold wn_X1_hasBooked
  have hin : ∀ {Q : Int32 → Prop}, Q (if (vK d).testBit r = true then 1 else 0) → wn_X5_isIn dk (nI r) Q := by
    intro Q h
    rw [hdk]
    exact s_isIn ok.K31 (by omega) h
  refine hin ?_
  cases hb : (vK d).testBit r
  · refine ⟨fun _ => s_conflictsWith (hd.r ok) hr ?_, fun hx => absurd rfl hx⟩
    have hlt : mk (cl (vP d) (vB d) (vE d) r) (vn d) &&& vK d < 2 ^ 31 := Nat.lt_of_le_of_lt Nat.and_le_right ok.K31
    have e1 : (nI (mk (cl (vP d) (vB d) (vE d) r) (vn d)) &&& dk = 0) = (mk (cl (vP d) (vB d) (vE d) r) (vn d) &&& vK d = 0) := by
      rw [hdk, z_and, z_0, z_eq hlt (by decide)]
    rw [e1]
    refine ⟨fun hm => s_save hn hS hd (fun so' sn' sb' se' sf' sc' sp' sk' hS' => s_bit (by omega) ?_), fun hm => h2 hr0 r rfl hr (fun hx => hm hx.2)⟩
    have hlt2 : vK d ||| 2 ^ r < 2 ^ 14 := put_lt ok.K (by omega)
    rw [hdk, z_or]
    exact s_fameOfSet (hd.r ok) (by omega) (hq hr0 r rfl hr hb hm _ _ _ _ _ _ _ _ _ hS' (hd.boo _))
  · exact ⟨fun hx => absurd hx (by decide), fun _ => h2 hr0 r rfl hr (fun hx => by rw [hb] at hx; cases hx.1)⟩
theorem S_cancel (ok : DOK d) (hS : SC S so sn sb se sf sc sp sk) (hd : DC d db de df dc dp dk) {a1 : Int32} {Q : Int32 → Int32 → Int32 → Int32 → (Nat → Nat → Int32) → (Nat → Nat → Int32) → (Nat → Nat → Int32) → (Nat → Int32) → (Nat → Int32) → (Nat → Int32) → Prop} {X : String → Int32 → Int32 → Int32 → (Nat → Nat → Int32) → (Nat → Nat → Int32) → (Nat → Nat → Int32) → (Nat → Int32) → (Nat → Int32) → (Nat → Int32) → Prop}
    (hq : isN (vn d) a1 → ∀ r : Nat, a1 = nI r → r < vn d → (vK d).testBit r = true → ∀ (so' sn' : Int32) (sb' se' sf' : Nat → Nat → Int32) (sc' sp' sk' : Nat → Int32) (dk' : Int32), SC (psh S d) so' sn' sb' se' sf' sc' sp' sk' → DC (booD d (clr (vK d) r)) db de df dc dp dk' → Q (nI (su (clr (vK d) r) (vF d) (vn d))) dk' so' sn' sb' se' sf' sc' sp' sk')
    (h1 : ¬ isN (vn d) a1 → X "java/lang/IndexOutOfBoundsException" dk so sn sb se sf sc sp sk)
    (h2 : isN (vn d) a1 → ∀ r : Nat, a1 = nI r → r < vn d → (vK d).testBit r = false → X "java/lang/IllegalStateException" dk so sn sb se sf sc sp sk) : wx_X5_cancel db de df dc dp dk so sn sb se sf sc sp sk a1 Q X := by
  have hn := ok.1
  have hdc : dc = nI (vn d) := hd.1
  have hdk : dk = nI (vK d) := hd.2.2.1
  unfold wx_X5_cancel
  suffices go : ∀ c : Int32, c = nI (vn d) → wx_X5_requireRehearsal c a1 (wn_X1_hasBooked dk a1 (fun r1 => ((¬ r1 = 0 → (wn_X3_save so sn sb se sf sc sp sk db de df dc dp dk (fun so_3 sn_4 sb_5 se_6 sf_7 sc_8 sp_9 sk_10 => (wn_X5_bit a1 (fun r11 => (wn_X1_fameOfSet df dc (dk &&& (r11 ^^^ (-1 : Int32))) (fun r12 => (Q r12 (dk &&& (r11 ^^^ (-1 : Int32))) so_3 sn_4 sb_5 se_6 sf_7 sc_8 sp_9 sk_10)))))))) ∧ (r1 = 0 → (X "java/lang/IllegalStateException" dk so sn sb se sf sc sp sk))))) (fun E => X E dk so sn sb se sf sc sp sk) from go dc hdc
  rintro c rfl
  refine s_reqR hn (fun hr0 => ?_) h1
  obtain ⟨r, hr, rfl⟩ := isN_of hr0 (by omega)
  unfold wn_X1_hasBooked
  have hin : ∀ {Q : Int32 → Prop}, Q (if (vK d).testBit r = true then 1 else 0) → wn_X5_isIn dk (nI r) Q := by
    intro Q h
    rw [hdk]
    exact s_isIn ok.K31 (by omega) h
  refine hin ?_
  cases hb : (vK d).testBit r
  · exact ⟨fun hx => absurd rfl hx, fun _ => h2 hr0 r rfl hr hb⟩
  · refine ⟨fun _ => s_save hn hS hd (fun so' sn' sb' se' sf' sc' sp' sk' hS' => s_bit (by omega) ?_), fun hx => absurd hx (by decide)⟩
    have h2r : (2:Nat) ^ r < 2 ^ 14 := Nat.pow_lt_pow_right (by decide) (by omega)
    have e1 : dk &&& (nI (2 ^ r) ^^^ (-1 : Int32)) = nI (clr (vK d) r) := by
      rw [hdk, z_mone, z_and, Nat.mod_eq_of_lt (by omega)]; rfl
    rw [e1]
    have hlt := Nat.lt_of_le_of_lt (clr_le (vK d) r) ok.K31
    exact s_fameOfSet (hd.r ok) hlt (hq hr0 r rfl hr hb _ _ _ _ _ _ _ _ _ hS' (hd.boo _))
end
