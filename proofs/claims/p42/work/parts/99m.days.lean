/-! p42: days with one rehearsal more or less, another fame, another pause; rooms; the saved states' row -/
theorem su_sm (S : Nat) (F : Nat → Nat) : ∀ n, su S F n = sm (fun k => if S.testBit k = true then F k else 0) n
  | 0 => rfl
  | n + 1 => by
    unfold su sm
    rw [su_sm S F n]
    by_cases h : S.testBit n = true
    · rw [if_pos h, if_pos h]
    · rw [if_neg h, if_neg h]; omega
theorem sm_del (f : Nat → Nat) (r : Nat) : ∀ n, r ≤ n → sm f (n + 1) = sm (fun k => if k < r then f k else f (k + 1)) n + f r
  | 0, h => by
    have e : r = 0 := by omega
    rw [e]
    rfl
  | n + 1, h => by
    by_cases hr : r = n + 1
    · rw [sm_congr (f := fun k => if k < r then f k else f (k + 1)) (g := f) (fun k hk => if_pos (by omega)), hr]
      rfl
    · have ih := sm_del f r n (by omega)
      show sm f (n + 1) + f (n + 1) = sm (fun k => if k < r then f k else f (k + 1)) n + (if n < r then f n else f (n + 1)) + f r
      rw [ih, if_neg (by omega : ¬ n < r)]
      omega
/-- the number, in the day with r, of what has the number k without it -/
def sg (r k : Nat) : Nat := if k < r then k else k + 1
theorem sg_lo {r k : Nat} (h : k < r) : sg r k = k := if_pos h
theorem sg_hi {r k : Nat} (h : r ≤ k) : sg r k = k + 1 := if_neg (by omega)
theorem sg_lt {r k n : Nat} (h : k < n) : sg r k < n + 1 := by unfold sg; split <;> omega
theorem sg_inj {r i j : Nat} (h : sg r i = sg r j) : i = j := by
  unfold sg at h
  split at h <;> split at h <;> omega
theorem sg_sur {r j n : Nat} (hj : j < n + 1) (hr : r ≤ n) (h : j ≠ r) : ∃ k, k < n ∧ sg r k = j := by
  rcases Nat.lt_or_ge j r with h1 | h1
  · exact ⟨j, by omega, sg_lo h1⟩
  · exact ⟨j - 1, by omega, by rw [sg_hi (by omega)]; omega⟩
/-- the day e is D without its rehearsal r -/
def rlD (D e : DV) (r : Nat) : Prop := vn D = vn e + 1 ∧ r ≤ vn e ∧ vP D = vP e ∧ ∀ k, k < vn e → vB e k = vB D (sg r k) ∧ vE e k = vE D (sg r k) ∧ vF e k = vF D (sg r k)
theorem rl_del {d : DV} {r : Nat} (hr : r < vn d) : rlD d (delD d r) r := by
  refine ⟨by show vn d = vn d - 1 + 1; omega, by show r ≤ vn d - 1; omega, rfl, fun k _ => ?_⟩
  have e : ∀ f : Nat → Nat, dlN f r k = f (sg r k) := by
    intro f
    unfold dlN sg
    split <;> rfl
  exact ⟨e _, e _, e _⟩
theorem rl_add (d : DV) (b e f : Nat) : rlD (addD d b e f) d (vn d) := by
  refine ⟨rfl, Nat.le_refl _, rfl, fun k hk => ?_⟩
  have h : ∀ (g : Nat → Nat) (v : Nat), g k = upN g (vn d) v (sg (vn d) k) := by
    intro g v
    rw [sg_lo hk, upN_n (by omega)]
  exact ⟨h _ _, h _ _, h _ _⟩
section
variable {D e : DV} {r : Nat}
theorem rl_cl (h : rlD D e r) {i j : Nat} (hi : i < vn e) (hj : j < vn e) : cl (vP e) (vB e) (vE e) i j = cl (vP D) (vB D) (vE D) (sg r i) (sg r j) := by
  obtain ⟨-, -, hP, hk⟩ := h
  obtain ⟨b1, e1, -⟩ := hk i hi
  obtain ⟨b2, e2, -⟩ := hk j hj
  unfold cl
  rw [b1, e1, b2, e2, hP]
  congr 1
  by_cases hij : i = j
  · rw [decide_eq_false (by rw [hij]; exact fun q => q rfl), decide_eq_false (by rw [hij]; exact fun q => q rfl)]
  · rw [decide_eq_true hij, decide_eq_true (p := sg r i ≠ sg r j) (fun q => hij (sg_inj q))]
theorem rl_su (h : rlD D e r) {S T : Nat} (hb : ∀ k, k < vn e → T.testBit k = S.testBit (sg r k)) : su S (vF D) (vn D) = su T (vF e) (vn e) + (if S.testBit r = true then vF D r else 0) := by
  rw [su_sm, su_sm, h.1, sm_del _ r (vn e) h.2.1]
  have h1 : sm (fun k => if k < r then (if S.testBit k = true then vF D k else 0) else (if S.testBit (k + 1) = true then vF D (k + 1) else 0)) (vn e) = sm (fun k => if T.testBit k = true then vF e k else 0) (vn e) := by
    refine sm_congr (fun k hk => ?_)
    have h2 := (h.2.2.2 k hk).2.2
    have h3 := hb k hk
    rcases Nat.lt_or_ge k r with hkr | hkr
    · rw [sg_lo hkr] at h2 h3
      rw [if_pos hkr, h3, h2]
    · rw [sg_hi hkr] at h2 h3
      rw [if_neg (by omega), h3, h2]
  rw [← h1]
theorem rl_chD (h : rlD D e r) {S T : Nat} (hb : ∀ k, k < vn e → T.testBit k = S.testBit (sg r k)) (hc : chB D S = true) : chB e T = true := by
  rw [chB_iff] at hc ⊢
  have hn := h.1
  intro i j hi hj h1 h2
  rw [rl_cl h hi hj]
  have hi2 := sg_lt (r := r) hi
  have hj2 := sg_lt (r := r) hj
  exact hc _ _ (by omega) (by omega) (by rw [← hb i hi]; exact h1) (by rw [← hb j hj]; exact h2)
theorem rl_chU (h : rlD D e r) {S T : Nat} (hb : ∀ k, k < vn e → T.testBit k = S.testBit (sg r k)) (hr : S.testBit r = false) (hc : chB e T = true) : chB D S = true := by
  rw [chB_iff] at hc ⊢
  have hn := h.1
  have hrn := h.2.1
  intro i j hi hj h1 h2
  have hir : i ≠ r := by intro q; rw [q, hr] at h1; cases h1
  have hjr : j ≠ r := by intro q; rw [q, hr] at h2; cases h2
  obtain ⟨i1, hi1, rfl⟩ := sg_sur (n := vn e) (by omega) hrn hir
  obtain ⟨j1, hj1, rfl⟩ := sg_sur (n := vn e) (by omega) hrn hjr
  rw [← rl_cl h hi1 hj1]
  exact hc i1 j1 hi1 hj1 (by rw [hb i1 hi1]; exact h1) (by rw [hb j1 hj1]; exact h2)
theorem rl_dn (S : Nat) (e : DV) (r : Nat) : ∃ T, T < 2 ^ vn e ∧ ∀ k, k < vn e → T.testBit k = S.testBit (sg r k) :=
  ⟨mk (fun k => S.testBit (sg r k)) (vn e), mk_lt _ _, fun k hk => by rw [mk_bit, decide_eq_true hk, Bool.true_and]⟩
theorem rl_up (T : Nat) (h : rlD D e r) : ∃ S, S < 2 ^ vn D ∧ S.testBit r = false ∧ ∀ k, k < vn e → T.testBit k = S.testBit (sg r k) := by
  have hn := h.1
  refine ⟨mk (fun j => if j < r then T.testBit j else (if j = r then false else T.testBit (j - 1))) (vn D), mk_lt _ _, ?_, fun k hk => ?_⟩
  · rw [mk_bit, if_neg (Nat.lt_irrefl r), if_pos rfl, Bool.and_false]
  · have h1 := sg_lt (r := r) hk
    rw [mk_bit, decide_eq_true (by omega), Bool.true_and]
    rcases Nat.lt_or_ge k r with hkr | hkr
    · rw [sg_lo hkr, if_pos hkr]
    · rw [sg_hi hkr, if_neg (by omega), if_neg (by omega), Nat.add_sub_cancel]
theorem gd0 {d : DV} {S : Nat} (h : chB d S = true) : gdS d 0 S := ⟨h, Nat.and_zero S⟩
theorem rl_best (h : rlD D e r) {b c : Nat} (hb : bestOf D 0 (2 ^ vn D) b) (hc : bestOf e 0 (2 ^ vn e) c) :
    su c (vF e) (vn e) ≤ su b (vF D) (vn D) ∧ su b (vF D) (vn D) ≤ su c (vF e) (vn e) + vF D r ∧ (b.testBit r = false → su c (vF e) (vn e) = su b (vF D) (vn D)) := by
  obtain ⟨S, s1, s2, s3⟩ := rl_up c h
  obtain ⟨T, t1, t2⟩ := rl_dn b e r
  have hS := (hb.2.2 S s1 (gd0 (rl_chU h s3 s2 hc.2.1.1))).1
  have hT := (hc.2.2 T t1 (gd0 (rl_chD h t2 hb.2.1.1))).1
  have e1 := rl_su h s3
  have e2 := rl_su h t2
  rw [if_neg (by rw [s2]; decide)] at e1
  refine ⟨by omega, ?_, fun hbr => ?_⟩
  · rw [e2]
    split <;> omega
  · rw [if_neg (by rw [hbr]; decide)] at e2
    omega
theorem rl_prs (h : rlD D e r) : prs (vn D) (vP D) (vB D) (vE D) = prs (vn e) (vP e) (vB e) (vE e) + ct (cl (vP D) (vB D) (vE D) r) (vn D) := by
  obtain ⟨c, hc⟩ : ∃ c : Nat → Nat → Nat, c = fun i j => if cl (vP D) (vB D) (vE D) i j = true then 1 else 0 := ⟨_, rfl⟩
  have hcs : ∀ i j, c i j = c j i := by intro i j; rw [hc]; show (if _ then 1 else 0) = (if _ then 1 else 0); rw [cl_symm]
  have hcr : c r r = 0 := by rw [hc]; exact if_neg (by rw [cl_irr]; decide)
  have e1 : ∀ i, ct (cl (vP D) (vB D) (vE D) i) (vn D) = sm (fun k => c i (sg r k)) (vn e) + c i r := by
    intro i
    rw [ct_sm, h.1, sm_del _ r (vn e) h.2.1, hc]
    congr 1
    refine sm_congr (fun k _ => ?_)
    rcases Nat.lt_or_ge k r with hkr | hkr
    · rw [if_pos hkr, sg_lo hkr]
    · rw [if_neg (by omega), sg_hi hkr]
  have e2 : ∀ k, k < vn e → ct (cl (vP e) (vB e) (vE e) k) (vn e) = sm (fun j => c (sg r k) (sg r j)) (vn e) := by
    intro k hk
    rw [ct_sm, hc]
    refine sm_congr (fun j hj => ?_)
    rw [rl_cl h hk hj]
  have e3 : prs2 (vn D) (vP D) (vB D) (vE D) = prs2 (vn e) (vP e) (vB e) (vE e) + sm (fun k => c (sg r k) r) (vn e) + ct (cl (vP D) (vB D) (vE D) r) (vn D) := by
    have f1 : prs2 (vn D) (vP D) (vB D) (vE D) = sm (fun k => ct (cl (vP D) (vB D) (vE D) (sg r k)) (vn D)) (vn e) + ct (cl (vP D) (vB D) (vE D) r) (vn D) := by
      show sm (fun i => ct (cl (vP D) (vB D) (vE D) i) (vn D)) (vn D) = _
      rw [show sm (fun i => ct (cl (vP D) (vB D) (vE D) i) (vn D)) (vn D) = sm (fun i => ct (cl (vP D) (vB D) (vE D) i) (vn D)) (vn e + 1) by rw [← h.1]]
      rw [sm_del _ r (vn e) h.2.1]
      congr 1
      refine sm_congr (fun k _ => ?_)
      rcases Nat.lt_or_ge k r with hkr | hkr
      · rw [if_pos hkr, sg_lo hkr]
      · rw [if_neg (by omega), sg_hi hkr]
    rw [f1, sm_congr (f := fun k => ct (cl (vP D) (vB D) (vE D) (sg r k)) (vn D)) (g := fun k => ct (cl (vP e) (vB e) (vE e) k) (vn e) + c (sg r k) r) (fun k hk => by rw [e1, e2 k hk]), sm_add]
    rfl
  have e4 : sm (fun k => c (sg r k) r) (vn e) = ct (cl (vP D) (vB D) (vE D) r) (vn D) := by
    rw [e1 r, hcr, Nat.add_zero]
    exact sm_congr (fun k _ => hcs _ _)
  rw [prs_twice, prs_twice, e4] at e3
  omega
end
/-! another fame -/
theorem su_fam {F : Nat → Nat} {r f n S : Nat} (hr : r < n) (hf : F r ≤ f) : su S (upN F r f) n = su S F n + (if S.testBit r = true then f - F r else 0) := by
  have h1 : su S (upN F r f) n = sm (fun k => (if S.testBit k = true then F k else 0) + (if r = k then (if S.testBit r = true then f - F r else 0) else 0)) n := by
    rw [su_sm]
    refine sm_congr (fun k _ => ?_)
    by_cases hk : r = k
    · subst hk
      rw [if_pos rfl, upN_s]
      split <;> omega
    · rw [if_neg hk, upN_n (fun q => hk q.symm)]
      omega
  rw [h1, sm_add, ← su_sm, sm_one (fun _ => if S.testBit r = true then f - F r else 0) r n, if_pos hr]
theorem fam_with {d : DV} {r f W V : Nat} (hr : r < vn d) (hf : vF d r ≤ f) (hW : bestOf d (2 ^ r) (2 ^ vn d) W) (hV : bestOf (famD d r f) (2 ^ r) (2 ^ vn d) V) : su V (upN (vF d) r f) (vn d) = su W (vF d) (vn d) + (f - vF d r) := by
  have w1 := and_pow.mp hW.2.1.2
  have v1 := and_pow.mp hV.2.1.2
  have h1 := (hW.2.2 V hV.1 hV.2.1).1
  have h2 : su W (upN (vF d) r f) (vn d) ≤ su V (upN (vF d) r f) (vn d) := (hV.2.2 W hW.1 hW.2.1).1
  rw [su_fam hr hf, if_pos w1] at h2
  rw [su_fam hr hf, if_pos v1] at h2 ⊢
  omega
theorem fam_best {d : DV} {r f b c : Nat} (hr : r < vn d) (hf : vF d r ≤ f) (hb : bestOf d 0 (2 ^ vn d) b) (hc : bestOf (famD d r f) 0 (2 ^ vn d) c) : su b (vF d) (vn d) ≤ su c (upN (vF d) r f) (vn d) := by
  have h2 : su b (upN (vF d) r f) (vn d) ≤ su c (upN (vF d) r f) (vn d) := (hc.2.2 b hb.1 hb.2.1).1
  rw [su_fam hr hf] at h2
  omega
/-! a shorter pause -/
theorem cl_mono {q P : Nat} (h : q ≤ P) {B E : Nat → Nat} {i j : Nat} (hc : cl q B E i j = true) : cl P B E i j = true := by
  unfold cl at hc ⊢
  simp only [Bool.and_eq_true, decide_eq_true_eq] at hc ⊢
  omega
theorem chO_mono {q P : Nat} (h : q ≤ P) {B E : Nat → Nat} {n S : Nat} (hc : chO P B E n S) : chO q B E n S := by
  intro i j hi hj h1 h2
  cases hx : cl q B E i j
  · rfl
  · have := hc i j hi hj h1 h2
    rw [cl_mono h hx] at this; cases this
theorem prs_mono {q P : Nat} (h : q ≤ P) (n : Nat) (B E : Nat → Nat) : prs n q B E ≤ prs n P B E := by
  refine sm_le (fun i _ => ?_)
  show ct (fun j => decide (i < j) && cl q B E i j) n ≤ ct (fun j => decide (i < j) && cl P B E i j) n
  rw [ct_sm, ct_sm]
  refine sm_le (fun j _ => ?_)
  by_cases hc : (decide (i < j) && cl q B E i j) = true
  · have h2 : (decide (i < j) && cl P B E i j) = true := by
      rw [Bool.and_eq_true] at hc ⊢
      exact ⟨hc.1, cl_mono h hc.2⟩
    show (if (decide (i < j) && cl q B E i j) = true then 1 else 0) ≤ (if (decide (i < j) && cl P B E i j) = true then 1 else 0)
    rw [if_pos hc, if_pos h2]
    exact Nat.le_refl 1
  · show (if (decide (i < j) && cl q B E i j) = true then 1 else 0) ≤ (if (decide (i < j) && cl P B E i j) = true then 1 else 0)
    rw [if_neg hc]
    exact Nat.zero_le _
theorem pau_best {d : DV} {q b c : Nat} (h : q ≤ vP d) (hb : bestOf d 0 (2 ^ vn d) b) (hc : bestOf (pauD d q) 0 (2 ^ vn d) c) : su b (vF d) (vn d) ≤ su c (vF d) (vn d) :=
  (hc.2.2 b hb.1 (gd0 ((chB_iff (pauD d q) b).mpr (chO_mono h ((chB_iff d b).mp hb.2.1.1))))).1
/-! bookings -/
theorem su_clr {K r n : Nat} (F : Nat → Nat) (hr : r < n) (hn : n ≤ 14) (hK : K < 2 ^ 31) (hb : K.testBit r = true) : su (clr K r) F n + F r = su K F n := by
  have h1 : (clr K r).testBit r = false := by rw [clr_bit (by omega) hK]; simp
  have h2 := su_put F h1 n hr
  rw [clr_put (by omega) hK hb] at h2
  omega
theorem bkd_le {d : DV} (ok : DOK d) {b : Nat} (hb : bestOf d 0 (2 ^ vn d) b) : su (vK d) (vF d) (vn d) ≤ su b (vF d) (vn d) :=
  (hb.2.2 (vK d) ok.2.2.2.1 (gd0 ((chB_iff d _).mpr ok.2.2.2.2))).1
theorem bkd_most {d : DV} (ok : DOK d) {mo : Nat} (hm : mostOf d (2 ^ vn d) mo) : pcn (vK d) 14 ≤ mo :=
  hm.1 (vK d) ok.2.2.2.1 ((chB_iff d _).mpr ok.2.2.2.2)
theorem most_0 {d : DV} {mo : Nat} (hm : mostOf d (2 ^ vn d) mo) : vn d = 0 ↔ mo = 0 := by
  constructor
  · intro h
    rcases hm.2 with h1 | ⟨S, h1, -, h3⟩
    · exact h1
    · rw [h] at h1
      have e : S = 0 := by simpa using h1
      rw [e] at h3
      rw [← h3]
      decide
  · intro h
    rcases Nat.eq_zero_or_pos (vn d) with h1 | h1
    · exact h1
    · have h2 := hm.1 (2 ^ 0) (Nat.pow_lt_pow_right (by decide) h1) (chB_one h1)
      rw [show pcn (2 ^ 0) 14 = 1 by decide] at h2
      omega
/-! the best with one -/
theorem with_le {d : DV} {r b W : Nat} (hb : bestOf d 0 (2 ^ vn d) b) (hW : bestOf d (2 ^ r) (2 ^ vn d) W) : su W (vF d) (vn d) ≤ su b (vF d) (vn d) :=
  (hb.2.2 W hW.1 (gd0 hW.2.1.1)).1
theorem with_has {d : DV} {r b W : Nat} (hb : bestOf d 0 (2 ^ vn d) b) (hW : bestOf d (2 ^ r) (2 ^ vn d) W) (h : b.testBit r = true) : su W (vF d) (vn d) = su b (vF d) (vn d) := by
  have h1 := (hW.2.2 b hb.1 ⟨hb.2.1.1, and_pow.mpr h⟩).1
  have h2 := with_le hb hW
  omega
theorem su_one {F : Nat → Nat} {r n : Nat} (hr : r < n) : su (2 ^ r) F n = F r := by
  have h := su_put (K := 0) (r := r) F (Nat.zero_testBit r) n hr
  rw [Nat.zero_or] at h
  rw [h, su_sm, sm_congr (g := fun _ => 0) (fun k _ => by rw [Nat.zero_testBit]; rfl), sm_zero, Nat.zero_add]
theorem with_ge {d : DV} {r W : Nat} (hr : r < vn d) (hW : bestOf d (2 ^ r) (2 ^ vn d) W) : vF d r ≤ su W (vF d) (vn d) := by
  have h1 := (hW.2.2 (2 ^ r) (Nat.pow_lt_pow_right (by decide) hr) ⟨chB_one hr, Nat.and_self _⟩).1
  rw [su_one hr] at h1
  exact h1
/-! rooms -/
theorem room_ne {d : DV} {L : List Nat} {R : Nat → Nat} (hL : ordB d L) (hg : gvn d L R (vn d)) {i j : Nat} (hi : i < vn d) (hj : j < vn d) (hc : cl (vP d) (vB d) (vE d) i j = true) : R i ≠ R j := by
  intro e
  obtain ⟨a, a1, a2⟩ := hL.mem hi
  obtain ⟨b, b1, b2⟩ := hL.mem hj
  rcases Nat.lt_trichotomy a b with h5 | h5 | h5
  · exact (hg b j b1 b2).1 ⟨i, ⟨a, h5, a2⟩, by rw [cl_symm]; exact hc, e⟩
  · subst h5
    rw [a2] at b2
    cases b2
    rw [cl_irr] at hc; cases hc
  · exact (hg a i a1 a2).1 ⟨j, ⟨b, h5, b2⟩, hc, e.symm⟩
theorem prs_0 {n P : Nat} {B E : Nat → Nat} : prs n P B E = 0 ↔ ∀ i j, i < n → j < n → cl P B E i j = false := by
  have tw := prs_twice n P B E
  constructor
  · intro h i j hi hj
    cases hx : cl P B E i j
    · rfl
    · exfalso
      have h1 := sm_ge (fun i => ct (cl P B E i) n) hi
      have h2 := sm_ge (fun k => if cl P B E i k = true then 1 else 0) hj
      rw [← ct_sm] at h2
      have h3 : (if cl P B E i j = true then 1 else 0) = 1 := if_pos hx
      have h4 : prs2 n P B E = sm (fun i => ct (cl P B E i) n) n := rfl
      have h1 : ct (cl P B E i) n ≤ sm (fun i => ct (cl P B E i) n) n := h1
      have h2 : (if cl P B E i j = true then 1 else 0) ≤ ct (cl P B E i) n := h2
      omega
  · intro h
    have h4 : prs2 n P B E = 0 := by
      show sm (fun i => ct (cl P B E i) n) n = 0
      rw [sm_congr (g := fun _ => 0) (fun i hi => by
        show ct (cl P B E i) n = 0
        rw [ct_sm, sm_congr (g := fun _ => 0) (fun j hj => by rw [h i j hi hj]; rfl), sm_zero]), sm_zero]
    omega
theorem rooms_2 {d : DV} {L : List Nat} {R : Nat → Nat} (hL : ordB d L) (hg : gvn d L R (vn d)) {x : Nat} (hx : mxO (fun k => k < vn d) R x) : prs (vn d) (vP d) (vB d) (vE d) = 0 ↔ x < 2 := by
  rw [prs_0]
  constructor
  · intro h
    rcases hx.2 with h1 | ⟨k, hk, e⟩
    · omega
    · obtain ⟨i, i1, i2⟩ := hL.mem hk
      rcases Nat.eq_zero_or_pos (R k) with h3 | h3
      · omega
      · obtain ⟨m, m1, m2, -⟩ := (hg i k i1 i2).2 0 h3
        rw [h k m hk (hL.nlt m1)] at m2; cases m2
  · intro h i j hi hj
    cases hc : cl (vP d) (vB d) (vE d) i j
    · rfl
    · have h1 := hx.1 i hi
      have h2 := hx.1 j hj
      exact absurd (by omega : R i = R j) (room_ne hL hg hi hj hc)
/-- the greatest room number of the first, and one more -/
def rmx (R : Nat → Nat) : Nat → Nat
  | 0 => 0
  | k + 1 => if rmx R k < R k + 1 then R k + 1 else rmx R k
theorem rmx_ok (R : Nat → Nat) : ∀ n, mxO (fun k => k < n) R (rmx R n)
  | 0 => mxO_congr (mxO_0 R) (fun k => ⟨fun h => h.elim, fun h => absurd h (Nat.not_lt_zero k)⟩)
  | n + 1 => mxO_step (rmx_ok R n) (fun k => by omega)
/-! the saved states' row -/
theorem psh_end {S : List DV} (h : S.length ≤ 6) (d : DV) : ∃ T : List DV, psh S d = T ++ [d] ∧ T.length ≤ 5 ∧ ∀ e ∈ T, e ∈ S := by
  unfold psh
  by_cases h6 : S.length = 6
  · rw [if_pos h6]
    exact ⟨S.tail, rfl, by rw [List.length_tail]; omega, fun e he => List.mem_of_mem_tail he⟩
  · rw [if_neg h6]
    exact ⟨S, rfl, by omega, fun e he => he⟩
theorem psh_two {S : List DV} (h : S.length ≤ 6) (d e : DV) : ∃ T : List DV, psh (psh S d) e = (T ++ [d]) ++ [e] ∧ T.length ≤ 4 ∧ ∀ f ∈ T, f ∈ S := by
  obtain ⟨T, h1, h2, h3⟩ := psh_end h d
  rw [h1]
  unfold psh
  by_cases h6 : (T ++ [d]).length = 6
  · rw [if_pos h6]
    rw [List.length_append, List.length_singleton] at h6
    cases T with
    | nil => exact absurd h6 (by decide)
    | cons a T =>
      refine ⟨T, rfl, ?_, fun f hf => h3 f (List.mem_cons_of_mem _ hf)⟩
      rw [List.length_cons] at h6
      omega
  · rw [if_neg h6]
    rw [List.length_append, List.length_singleton] at h6
    exact ⟨T, rfl, by omega, h3⟩
theorem psh_rep {T : List DV} {j : Nat} (hj : j < 6) (hT : T.length + j ≤ 6) (d : DV) : ∃ T' : List DV, psh (T ++ List.replicate j d) d = T' ++ List.replicate (j + 1) d ∧ T'.length + (j + 1) ≤ 6 := by
  have e : (T ++ List.replicate j d).length = T.length + j := by rw [List.length_append, List.length_replicate]
  unfold psh
  by_cases h6 : (T ++ List.replicate j d).length = 6
  · rw [if_pos h6]
    rw [e] at h6
    cases T with
    | nil =>
      rw [List.length_nil] at h6
      omega
    | cons a T =>
      rw [List.length_cons] at hT
      refine ⟨T, ?_, by omega⟩
      show (T ++ List.replicate j d) ++ [d] = _
      rw [List.append_assoc, ← List.replicate_succ']
  · rw [if_neg h6]
    rw [e] at h6
    refine ⟨T, ?_, by omega⟩
    rw [List.append_assoc, ← List.replicate_succ']
theorem psh_six {S : List DV} (h : S.length ≤ 6) (d : DV) : psh (psh (psh (psh (psh (psh S d) d) d) d) d) d = [d, d, d, d, d, d] := by
  obtain ⟨T1, h1, l1⟩ := psh_rep (j := 0) (T := S) (by decide) (by omega) d
  rw [List.replicate_zero, List.append_nil] at h1
  have h1 : psh S d = T1 ++ List.replicate 1 d := h1
  obtain ⟨T2, h2, l2⟩ := psh_rep (j := 1) (T := T1) (by decide) (by omega) d
  have h2 : psh (T1 ++ List.replicate 1 d) d = T2 ++ List.replicate 2 d := h2
  obtain ⟨T3, h3, l3⟩ := psh_rep (j := 2) (T := T2) (by decide) (by omega) d
  have h3 : psh (T2 ++ List.replicate 2 d) d = T3 ++ List.replicate 3 d := h3
  obtain ⟨T4, h4, l4⟩ := psh_rep (j := 3) (T := T3) (by decide) (by omega) d
  have h4 : psh (T3 ++ List.replicate 3 d) d = T4 ++ List.replicate 4 d := h4
  obtain ⟨T5, h5, l5⟩ := psh_rep (j := 4) (T := T4) (by decide) (by omega) d
  have h5 : psh (T4 ++ List.replicate 4 d) d = T5 ++ List.replicate 5 d := h5
  obtain ⟨T6, h6, l6⟩ := psh_rep (j := 5) (T := T5) (by decide) (by omega) d
  have h6 : psh (T5 ++ List.replicate 5 d) d = T6 ++ List.replicate 6 d := h6
  have e6 : T6 = [] := List.length_eq_zero_iff.mp (by omega)
  rw [h1, h2, h3, h4, h5, h6, e6]
  rfl
