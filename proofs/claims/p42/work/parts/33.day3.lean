/-! the day's changes -/
def upN (f : Nat → Nat) (k v : Nat) : Nat → Nat := fun j => if j = k then v else f j
def addD (d : DV) (b e f : Nat) : DV := (vn d + 1, vP d, upN (vB d) (vn d) b, upN (vE d) (vn d) e, upN (vF d) (vn d) f, vK d)
theorem s_takeOn {d : DV} (hn : vn d < 14) {b e f : Nat} {db de df : Nat → Int32} {dc dp dk : Int32} (hd : DC d db de df dc dp dk) {Q : (Nat → Int32) → (Nat → Int32) → (Nat → Int32) → Int32 → Prop} (h : ∀ (db' de' df' : Nat → Int32) (dc' : Int32), DC (addD d b e f) db' de' df' dc' dp dk → Q db' de' df' dc') : wn_X1_takeOn db de df dc (nI b) (nI e) (nI f) Q := by
  obtain ⟨rfl, h2, h3, h4⟩ := hd
  have hv : vp_in (nI (vn d)) 14 := z_in hn (by decide)
  unfold wn_X1_takeOn
  rw [z_cl (by omega), nI_1]
  refine ⟨hv, hv, hv, h _ _ _ _ ⟨rfl, h2, h3, fun k hk => ?_⟩⟩
  by_cases hkn : k = vn d
  · subst hkn
    refine ⟨pk_us.trans ?_, pk_us.trans ?_, pk_us.trans ?_⟩ <;> (show nI _ = nI (if vn d = vn d then _ else _); rw [if_pos rfl])
  · have hk2 : k < vn d := by
      have : k < vn d + 1 := hk
      omega
    obtain ⟨a, b2, c⟩ := h4 k hk2
    refine ⟨(pk_un hkn).trans (a.trans ?_), (pk_un hkn).trans (b2.trans ?_), (pk_un hkn).trans (c.trans ?_)⟩ <;> (show nI _ = nI (if k = vn d then _ else _); rw [if_neg hkn])
/-- a set without its bit r, those above one lower -/
def rmb (K r : Nat) : Nat := (K &&& (2 ^ r - 1)) ||| (K / 2 ^ (r + 1) * 2 ^ r)
def dlN (f : Nat → Nat) (r : Nat) : Nat → Nat := fun k => if k < r then f k else f (k + 1)
def delD (d : DV) (r : Nat) : DV := (vn d - 1, vP d, dlN (vB d) r, dlN (vE d) r, dlN (vF d) r, rmb (vK d) r)
def shI (f : Nat → Int32) (r k : Nat) : Nat → Int32 := fun j => if r ≤ j ∧ j + 1 < k then f (j + 1) else f j
theorem shI_step {f g : Nat → Int32} {r k : Nat} (hr : r < k) (hg : ∀ j, g j = shI f r k j) : ∀ j, upd g (k - 1) (g k) j = shI f r (k + 1) j := by
  intro j
  by_cases hj : j = k - 1
  · rw [hj, pk_us, hg k]
    unfold shI
    rw [if_neg (by omega), if_pos (by omega), show k - 1 + 1 = k by omega]
  · rw [pk_un hj, hg j]
    unfold shI
    by_cases h1 : r ≤ j ∧ j + 1 < k
    · rw [if_pos h1, if_pos (by omega)]
    · rw [if_neg h1, if_neg (by omega)]
theorem s_takeOut {d : DV} (hn : vn d ≤ 14) (hK : vK d < 2 ^ 14) {r : Nat} (hr : r < vn d) {db de df : Nat → Int32} {dc dp dk : Int32} (hd : DC d db de df dc dp dk) {Q : (Nat → Int32) → (Nat → Int32) → (Nat → Int32) → Int32 → Int32 → Prop} (h : ∀ (db' de' df' : Nat → Int32) (dc' dk' : Int32), DC (delD d r) db' de' df' dc' dp dk' → Q db' de' df' dc' dk') : wn_X1_takeOut db de df dc dk (nI r) Q := by
  obtain ⟨rfl, h2, rfl, h4⟩ := hd
  have key : ∀ (m k : Nat) (gb ge gf : Nat → Int32), k + m = vn d → r < k → (∀ j, gb j = shI db r k j) → (∀ j, ge j = shI de r k j) → (∀ j, gf j = shI df r k j) → wl_n_X1_takeOut_4 Q (m + 1) gb ge gf (nI (vn d)) (nI (vK d)) (nI r) (nI k) := by
    intro m
    induction m with
    | zero =>
      intro k gb ge gf hk hrk hb he hf
      rw [wl_n_X1_takeOut_4, z_le (by omega) (by omega)]
      refine ⟨fun _ => ?_, fun hc => absurd (by omega) hc⟩
      refine s_bit (by omega) ?_
      have h1 : 0 < 2 ^ r := Nat.two_pow_pos r
      have h5 : vK d / 2 ^ (r + 1) * 2 ^ r < 2 ^ 32 := by
        have h6 : vK d / 2 ^ (r + 1) * 2 ^ r ≤ vK d := by
          have h7 : vK d / 2 ^ (r + 1) * 2 ^ (r + 1) ≤ vK d := Nat.div_mul_le_self _ _
          have h8 : (2:Nat) ^ r ≤ 2 ^ (r + 1) := Nat.pow_le_pow_right (by decide) (by omega)
          exact Nat.le_trans (Nat.mul_le_mul_left _ h8) h7
        omega
      rw [z_1, z_sub (by omega), z_sub (by omega), z_and, nI_add, z_shr (by omega) (by omega), z_shl h5 (by omega), z_or]
      refine h gb ge gf _ _ ⟨rfl, h2, rfl, fun j hj => ?_⟩
      have hj2 : j < vn d - 1 := hj
      by_cases hjr : j < r
      · obtain ⟨a, b, c⟩ := h4 j (by omega)
        rw [hb j, he j, hf j]
        unfold shI
        rw [if_neg (by omega), if_neg (by omega), if_neg (by omega)]
        refine ⟨a.trans ?_, b.trans ?_, c.trans ?_⟩ <;> (show nI _ = nI (if j < r then _ else _); rw [if_pos hjr])
      · obtain ⟨a, b, c⟩ := h4 (j + 1) (by omega)
        rw [hb j, he j, hf j]
        unfold shI
        rw [if_pos (by omega), if_pos (by omega), if_pos (by omega)]
        refine ⟨a.trans ?_, b.trans ?_, c.trans ?_⟩ <;> (show nI _ = nI (if j < r then _ else _); rw [if_neg hjr])
    | succ m ih =>
      intro k gb ge gf hk hrk hb he hf
      rw [wl_n_X1_takeOut_4, z_le (by omega) (by omega)]
      refine ⟨fun hc => absurd hc (by omega), fun _ => ?_⟩
      have hv : vp_in (nI k) 14 := z_in (by omega) (by decide)
      have hv2 : vp_in (nI (k - 1)) 14 := z_in (by omega) (by decide)
      unfold wn_X1_copyRehearsal_self
      rw [z_1, z_sub (by omega), z_cl (by omega), z_cl (by omega), nI_add]
      exact ⟨hv, hv2, hv, hv2, hv, hv2, ih (k + 1) _ _ _ (by omega) (by omega) (shI_step hrk hb) (shI_step hrk he) (shI_step hrk hf)⟩
  unfold wn_X1_takeOut
  rw [nI_1]
  refine ⟨vn d - (r + 1) + 1, key _ (r + 1) db de df (by omega) (by omega) ?_ ?_ ?_⟩ <;> (intro j; unfold shI; rw [if_neg (by omega)])
/-- the bookings leave these times to r -/
def alw (d : DV) (r b e : Nat) : Bool := an (fun k => !(decide (k ≠ r) && ((vK d).testBit k && (decide (b < vE d k + vP d) && decide (vB d k < e + vP d))))) (vn d)
theorem s_bookingsAllow {d : DV} (ok : DOK d) {r b e : Nat} (hr : r < 1000) (hb : b < 1000) (he : e < 1000) {db de df : Nat → Int32} {dc dp dk : Int32} (hd : DC d db de df dc dp dk) {Q : Int32 → Prop} (h : Q (if alw d r b e = true then 1 else 0)) : wn_X1_bookingsAllow db de dc dp dk (nI r) (nI b) (nI e) Q := by
  have hD := hd.r ok
  have hn := ok.1
  have hP := ok.2.1
  obtain ⟨rfl, rfl, rfl, h4⟩ := hd
  have key : ∀ m k : Nat, k + m = vn d → an (fun k => !(decide (k ≠ r) && ((vK d).testBit k && (decide (b < vE d k + vP d) && decide (vB d k < e + vP d))))) k = true → wl_n_X1_bookingsAllow_3 db de (nI (vn d)) (nI (vP d)) (nI (vK d)) Q (m + 1) (nI r) (nI b) (nI e) (nI k) := by
    intro m
    induction m with
    | zero =>
      intro k hk ha
      rw [wl_n_X1_bookingsAllow_3, z_le (by omega) (by omega)]
      refine ⟨fun _ => ?_, fun hc => absurd (by omega) hc⟩
      rw [show k = vn d by omega] at ha
      rw [show alw d r b e = true from ha] at h
      exact h
    | succ m ih =>
      intro k hk ha
      have ih := ih (k + 1) (by omega)
      rw [show an (fun k => !(decide (k ≠ r) && ((vK d).testBit k && (decide (b < vE d k + vP d) && decide (vB d k < e + vP d))))) (k + 1) = (an (fun k => !(decide (k ≠ r) && ((vK d).testBit k && (decide (b < vE d k + vP d) && decide (vB d k < e + vP d))))) k && !(decide (k ≠ r) && ((vK d).testBit k && (decide (b < vE d k + vP d) && decide (vB d k < e + vP d))))) from rfl, ha, Bool.true_and, ← nI_1] at ih
      rw [wl_n_X1_bookingsAllow_3, z_le (by omega) (by omega), z_eq (by omega) (by omega)]
      refine ⟨fun hc => absurd hc (by omega), fun _ => ⟨fun hc => ?_, fun hc => ?_⟩⟩
      · rw [decide_eq_false (by omega : ¬ k ≠ r)] at ih
        exact ih rfl
      · rw [decide_eq_true hc, Bool.true_and] at ih
        unfold wn_X1_hasBooked
        refine s_isIn ok.K31 (by omega) ?_
        cases hb1 : (vK d).testBit k
        · rw [hb1] at ih
          exact ⟨fun _ => ih rfl, fun hc => absurd rfl hc⟩
        · rw [hb1, Bool.true_and] at ih
          refine ⟨fun hc => absurd hc (by decide), fun _ => s_cwt hD (by omega) hb he (by omega) ?_⟩
          cases hb2 : (decide (b < vE d k + vP d) && decide (vB d k < e + vP d))
          · rw [hb2] at ih
            exact ⟨fun _ => ih rfl, fun hc => absurd rfl hc⟩
          · refine ⟨fun hc => absurd hc (by decide), fun _ => ?_⟩
            have hf : alw d r b e = false := an_false _ (k := k) (by omega) (by rw [decide_eq_true hc, hb1, hb2]; rfl)
            rw [hf] at h
            exact h
  exact ⟨vn d + 1, key (vn d) 0 (by omega) rfl⟩
/-- the bookings allow this pause -/
def alp (d : DV) (q : Nat) : Bool := an (fun i => an (fun j => !(decide (i < j) && ((vK d).testBit i && ((vK d).testBit j && (decide (vB d j < vE d i + q) && decide (vB d i < vE d j + q)))))) (vn d)) (vn d)
theorem s_bookingsAllowPause {d : DV} (ok : DOK d) {q : Nat} (hq : q < 1000) {db de df : Nat → Int32} {dc dp dk : Int32} (hd : DC d db de df dc dp dk) {Q : Int32 → Prop} (h : Q (if alp d q = true then 1 else 0)) : wn_X1_bookingsAllowPause db de dc dk (nI q) Q := by
  have hD := hd.r ok
  have hn := ok.1
  obtain ⟨rfl, rfl, rfl, h4⟩ := hd
  obtain ⟨pj, hpj⟩ : ∃ pj : Nat → Nat → Bool, pj = fun i j => !(decide (i < j) && ((vK d).testBit i && ((vK d).testBit j && (decide (vB d j < vE d i + q) && decide (vB d i < vE d j + q))))) := ⟨_, rfl⟩
  have hal : alp d q = an (fun i => an (pj i) (vn d)) (vn d) := by rw [hpj]; rfl
  have inner : ∀ (kk : Int32 → Int32 → Prop) (i : Nat), i < vn d → (an (pj i) (vn d) = true → kk (nI q) (nI i + (1 : Int32))) → ∀ m k : Nat, k + m = vn d → i < k → an (pj i) k = true → wl_n_X1_bookingsAllowPause_14 db de (nI (vn d)) (nI (vK d)) Q kk (m + 1) (nI q) (nI i) (nI k) := by
    intro kk i hi hkk m
    induction m with
    | zero =>
      intro k hk hik ha
      rw [wl_n_X1_bookingsAllowPause_14, z_le (by omega) (by omega)]
      refine ⟨fun _ => ?_, fun hc => absurd (by omega) hc⟩
      rw [show k = vn d by omega] at ha
      exact hkk ha
    | succ m ih =>
      intro k hk hik ha
      have ih := ih (k + 1) (by omega) (by omega)
      rw [show an (pj i) (k + 1) = (an (pj i) k && pj i k) from rfl, ha, Bool.true_and, ← nI_1] at ih
      have hp : pj i k = !((vK d).testBit i && ((vK d).testBit k && (decide (vB d k < vE d i + q) && decide (vB d i < vE d k + q)))) := by rw [hpj]; show (!(decide (i < k) && _)) = _; rw [decide_eq_true hik, Bool.true_and]
      obtain ⟨g1, g2, -, g4, g5, -⟩ := hD.2.2.2.2 k (by omega)
      have hv : vp_in (nI k) 14 := z_in (by omega) (by decide)
      rw [wl_n_X1_bookingsAllowPause_14, z_le (by omega) (by omega)]
      refine ⟨fun hc => absurd hc (by omega), fun _ => ?_⟩
      unfold wn_X1_hasBooked
      refine s_isIn ok.K31 (by omega) ?_
      cases hb1 : (vK d).testBit i
      · rw [hp, hb1] at ih
        exact ⟨fun _ => ih rfl, fun hc => absurd rfl hc⟩
      · refine ⟨fun hc => absurd hc (by decide), fun _ => s_isIn ok.K31 (by omega) ?_⟩
        cases hb2 : (vK d).testBit k
        · rw [hp, hb1, hb2] at ih
          exact ⟨fun _ => ih rfl, fun hc => absurd rfl hc⟩
        · refine ⟨fun hc => absurd hc (by decide), fun _ => ⟨hv, hv, ?_⟩⟩
          rw [z_cl (by omega), g1, g2]
          refine s_cwt hD hi (by omega) (by omega) hq ?_
          cases hb3 : (decide (vB d k < vE d i + q) && decide (vB d i < vE d k + q))
          · rw [hp, hb1, hb2, hb3] at ih
            exact ⟨fun _ => ih rfl, fun hc => absurd rfl hc⟩
          · refine ⟨fun hc => absurd hc (by decide), fun _ => ?_⟩
            have hf : alp d q = false := by
              rw [hal]
              exact an_false _ (k := i) hi (an_false _ (k := k) (by omega) (by rw [hp, hb1, hb2, hb3]; rfl))
            rw [hf] at h
            exact h
  have start : ∀ i k : Nat, k ≤ i + 1 → an (pj i) k = true := by
    intro i k hk
    rw [an_iff]
    intro j hj
    rw [hpj]
    show (!(decide (i < j) && _)) = true
    rw [decide_eq_false (by omega : ¬ i < j)]
    rfl
  have key : ∀ m i : Nat, i + m = vn d → an (fun i => an (pj i) (vn d)) i = true → wl_n_X1_bookingsAllowPause_2 db de (nI (vn d)) (nI (vK d)) Q (m + 1) (nI q) (nI i) := by
    intro m
    induction m with
    | zero =>
      intro i hi ha
      rw [wl_n_X1_bookingsAllowPause_2, z_le (by omega) (by omega)]
      refine ⟨fun _ => ?_, fun hc => absurd (by omega) hc⟩
      rw [show i = vn d by omega, ← hal] at ha
      rw [ha] at h
      exact h
    | succ m ih =>
      intro i hi ha
      rw [wl_n_X1_bookingsAllowPause_2, z_le (by omega) (by omega)]
      refine ⟨fun hc => absurd hc (by omega), fun _ => ⟨vn d - (i + 1) + 1, ?_⟩⟩
      rw [nI_1]
      refine inner _ i (by omega) (fun hx => ?_) _ (i + 1) (by omega) (by omega) (start i (i + 1) (Nat.le_refl _))
      rw [nI_1]
      refine ih (i + 1) (by omega) ?_
      show (an (fun i => an (pj i) (vn d)) i && an (pj i) (vn d)) = true
      rw [ha, hx]
      rfl
  exact ⟨vn d + 1, key (vn d) 0 (by omega) rfl⟩
theorem s_restore {S : List DV} {d : DV} {so sn : Int32} {sb se sf : Nat → Nat → Int32} {sc sp sk : Nat → Int32} (hS : SC (S ++ [d]) so sn sb se sf sc sp sk) {db de df : Nat → Int32} {dc dp dk : Int32} {Q : Int32 → (Nat → Int32) → (Nat → Int32) → (Nat → Int32) → Int32 → Int32 → Int32 → Prop}
    (h : ∀ (sn' : Int32) (db' de' df' : Nat → Int32) (dc' dp' dk' : Int32), SC S so sn' sb se sf sc sp sk → DC d db' de' df' dc' dp' dk' → Q sn' db' de' df' dc' dp' dk') : wn_X3_restoreLatest so sn sb se sf sc sp sk db de df dc dp dk Q := by
  obtain ⟨o, rfl, ho, rfl, hl, hSn, hS⟩ := hS
  have hlen : (S ++ [d]).length = S.length + 1 := by simp
  have hd := hS S.length d (by simp)
  have hdn : vn d ≤ 14 := hSn d (by simp)
  have hS' : SC S (nI o) (nI S.length) sb se sf sc sp sk := ⟨o, rfl, ho, rfl, by omega, fun e he => hSn e (List.mem_append_left _ he), fun i e hi => hS i e (by rw [List.getElem?_append_left (List.getElem?_eq_some_iff.mp hi).1]; exact hi)⟩
  unfold wn_X3_restoreLatest
  rw [hlen, z_1, z_sub (by omega), show S.length + 1 - 1 = S.length by omega]
  have hx : (nI o + nI S.length) - (nI o + nI S.length) / (6 : Int32) * (6 : Int32) = nI ((o + S.length) % 6) := by
    rw [nI_add, z_6]
    exact pk_rem (by omega) (by decide) (by decide)
  rw [hx]
  have hm : (o + S.length) % 6 < 6 := Nat.mod_lt _ (by decide)
  have key : ∀ k : Nat, (o + S.length) % 6 = k → wn_X1_copyFrom db de df dc dp dk (sb k) (se k) (sf k) (sc k) (sp k) (sk k) (fun db' de' df' dc' dp' dk' => Q (nI S.length) db' de' df' dc' dp' dk') := by
    intro k hk
    rw [hk] at hd
    exact s_copyDay hdn hd (fun db' de' df' dc' dp' dk' hd' => h _ _ _ _ _ _ _ hS' hd')
  refine ⟨z_in hm (by decide), ?_, ?_, ?_, ?_, ?_, ?_⟩
  · intro hk; exact key 0 ((nI_eq (by omega) (by decide)).mp hk)
  · intro hk; exact key 1 ((nI_eq (by omega) (by decide)).mp hk)
  · intro hk; exact key 2 ((nI_eq (by omega) (by decide)).mp hk)
  · intro hk; exact key 3 ((nI_eq (by omega) (by decide)).mp hk)
  · intro hk; exact key 4 ((nI_eq (by omega) (by decide)).mp hk)
  · intro hk; exact key 5 ((nI_eq (by omega) (by decide)).mp hk)
