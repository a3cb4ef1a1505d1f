/-! the reference's row of numbers, and its small methods -/
def DM (d : DV) (y : Nat → Int32) : Prop := (∀ k, k < vn d → y k = nI (vB d k) ∧ y (14 + k) = nI (vE d k) ∧ y (28 + k) = nI (vF d k)) ∧ y 42 = nI (vK d) ∧ y 43 = nI (vP d) ∧ y 44 = nI (vn d)
/-- what the small methods want of a day -/
def DW (d : DV) : Prop := vn d ≤ 14 ∧ vP d ≤ 8 ∧ ∀ k, k < vn d → vB d k < 1000 ∧ vE d k < 1000
theorem DOK.w {d : DV} (ok : DOK d) : DW d := ⟨ok.1, ok.2.1, fun k hk => by obtain ⟨a, b, -⟩ := ok.2.2.1 k hk; omega⟩
theorem z44 : (44 : Int32).toNatClampNeg = 44 := by decide
theorem z43 : (43 : Int32).toNatClampNeg = 43 := by decide
theorem z42 : (42 : Int32).toNatClampNeg = 42 := by decide
theorem zi44 : vp_in (44 : Int32) 45 := z_in (n := 44) (by decide) (by decide)
theorem zi43 : vp_in (43 : Int32) 45 := z_in (n := 43) (by decide) (by decide)
theorem zi42 : vp_in (42 : Int32) 45 := z_in (n := 42) (by decide) (by decide)
theorem z14p (k : Nat) : (14 : Int32) + nI k = nI (14 + k) := by rw [z_14, nI_add]
theorem z28p (k : Nat) : (28 : Int32) + nI k = nI (28 + k) := by rw [show (28 : Int32) = nI 28 from rfl, nI_add]
theorem m_clash45 {uu : Nat → Int32} {i j : Nat} (hi : i < 1000) (hj : j < 1000) {a b : Bool} {Q : Int32 → Prop} (h : Q (if (decide (i ≠ j) && (!a && !b)) = true then 1 else 0)) : wj_n_X6_clash_45 uu Q (nI i) (nI j) (if a = true then 1 else 0) (if b = true then 1 else 0) := by
  unfold wj_n_X6_clash_45
  rw [z_eq (by omega) (by omega)]
  refine ⟨fun hc => ?_, fun hc => ⟨fun ha => ?_, fun ha => ⟨fun hb => ?_, fun hb => ?_⟩⟩⟩
  · rw [decide_eq_false (by omega : ¬ i ≠ j)] at h; exact h
  · cases a
    · exact absurd rfl ha
    · rw [show (decide (i ≠ j) && (!true && !b)) = false by simp] at h; exact h
  · cases b
    · exact absurd rfl hb
    · rw [show (decide (i ≠ j) && (!a && !true)) = false by simp] at h; exact h
  · cases a
    · cases b
      · rw [decide_eq_true hc] at h; exact h
      · exact absurd hb (by decide)
    · exact absurd ha (by decide)
theorem m_clash {d : DV} (hw : DW d) {y : Nat → Int32} (hm : DM d y) {i j : Nat} (hi : i < vn d) (hj : j < vn d) {Q : Int32 → Prop} (h : Q (if cl (vP d) (vB d) (vE d) i j = true then 1 else 0)) : wn_X6_clash y (nI i) (nI j) Q := by
  obtain ⟨hn, hP, hw⟩ := hw
  obtain ⟨hm, h42, h43, h44⟩ := hm
  obtain ⟨a1, a2, -⟩ := hm i hi
  obtain ⟨b1, b2, -⟩ := hm j hj
  obtain ⟨wi1, wi2⟩ := hw i hi
  obtain ⟨wj1, wj2⟩ := hw j hj
  have hv : ∀ k, k < vn d → vp_in (nI k) 45 := fun k hk => z_in (by omega) (by decide)
  have hv2 : ∀ k, k < vn d → vp_in (nI (14 + k)) 45 := fun k hk => z_in (by omega) (by decide)
  have e1 : cl (vP d) (vB d) (vE d) i j = (decide (i ≠ j) && (!(decide (vE d i + vP d ≤ vB d j)) && !(decide (vE d j + vP d ≤ vB d i)))) := by
    unfold cl
    congr 2
    · by_cases hc : vB d j < vE d i + vP d
      · rw [decide_eq_true hc, decide_eq_false (by omega)]; rfl
      · rw [decide_eq_false hc, decide_eq_true (by omega)]; rfl
    · by_cases hc : vB d i < vE d j + vP d
      · rw [decide_eq_true hc, decide_eq_false (by omega)]; rfl
      · rw [decide_eq_false hc, decide_eq_true (by omega)]; rfl
  rw [e1] at h
  have second : ∀ a : Bool, a = decide (vE d i + vP d ≤ vB d j) → wj_n_X6_clash_22 y Q (nI i) (nI j) (if a = true then 1 else 0) := by
    intro a ha
    unfold wj_n_X6_clash_22
    rw [z14p, z43, z_cl (by omega), z_cl (by omega), b2, h43, a1, nI_add, z_lt (by omega) (by omega)]
    refine ⟨hv2 j hj, zi43, hv i hi, fun hc => ?_, fun hc => ?_⟩
    · have k := m_clash45 (uu := y) (i := i) (j := j) (by omega) (by omega) (a := a) (b := false) (Q := Q) (by rw [ha]; rw [decide_eq_false (by omega : ¬ vE d j + vP d ≤ vB d i)] at h; exact h)
      exact k
    · have k := m_clash45 (uu := y) (i := i) (j := j) (by omega) (by omega) (a := a) (b := true) (Q := Q) (by rw [ha]; rw [decide_eq_true (by omega : vE d j + vP d ≤ vB d i)] at h; exact h)
      exact k
  unfold wn_X6_clash
  rw [z14p, z43, z_cl (by omega), z_cl (by omega), a2, h43, b1, nI_add, z_lt (by omega) (by omega)]
  refine ⟨hv2 i hi, zi43, hv j hj, fun hc => ?_, fun hc => ?_⟩
  · exact second false (decide_eq_false (by omega)).symm
  · exact second true (decide_eq_true (by omega)).symm
theorem m_foesOf {d : DV} (hw : DW d) {y : Nat → Int32} (hm : DM d y) {i : Nat} (hi : i < vn d) {Q : Int32 → Prop} (h : Q (nI (mk (cl (vP d) (vB d) (vE d) i) (vn d)))) : wn_X6_foesOf y (nI i) Q := by
  have hn := hw.1
  have h44 := hm.2.2.2
  have key : ∀ m k : Nat, k + m = vn d → wl_n_X6_foesOf_4 y Q (m + 1) (nI i) (nI (mk (cl (vP d) (vB d) (vE d) i) k)) (nI k) := by
    intro m
    induction m with
    | zero =>
      intro k hk
      rw [wl_n_X6_foesOf_4, z44, h44, z_le (by omega) (by omega)]
      refine ⟨zi44, fun _ => ?_, fun hc => absurd (by omega) hc⟩
      rw [show k = vn d by omega]; exact h
    | succ m ih =>
      intro k hk
      rw [wl_n_X6_foesOf_4, z44, h44, z_le (by omega) (by omega)]
      refine ⟨zi44, fun hc => absurd hc (by omega), fun _ => m_clash hw hm hi (by omega) ?_⟩
      have ih := ih (k + 1) (by omega)
      unfold mk at ih
      rw [← nI_1] at ih
      unfold wj_n_X6_foesOf_29
      cases hb : cl (vP d) (vB d) (vE d) i k
      · rw [hb] at ih
        refine ⟨fun _ => ?_, fun hc => absurd rfl hc⟩
        rw [z_0, z_or, Nat.or_zero]
        exact ih
      · rw [hb] at ih
        refine ⟨fun hc => absurd hc (by decide), fun _ => ?_⟩
        rw [z_bit k (by omega), z_or, mk_or]
        exact ih
  exact ⟨vn d + 1, key (vn d) 0 (by omega)⟩
/-- how many bits a set has, of the first n -/
def pcn (s : Nat) : Nat → Nat
  | 0 => 0
  | k + 1 => pcn s k + s / 2 ^ k % 2
theorem m_bits {s : Nat} (hs : s < 2 ^ 31) {Q : Int32 → Prop} (h : Q (nI (pcn s 14))) : wn_X6_bits (nI s) Q := by
  have key : ∀ m k : Nat, k + m = 14 → wl_n_X6_bits_4 Q (m + 1) (nI s) (nI (pcn s k)) (nI k) := by
    intro m
    induction m with
    | zero =>
      intro k hk
      rw [wl_n_X6_bits_4, z_14, z_le (by omega) (by omega)]
      refine ⟨fun _ => ?_, fun hc => absurd (by omega) hc⟩
      rw [show k = 14 by omega]; exact h
    | succ m ih =>
      intro k hk
      have ih := ih (k + 1) (by omega)
      rw [wl_n_X6_bits_4, z_14, z_le (by omega) (by omega), z_shr hs (by omega), z_1, z_and, Nat.and_one_is_mod, nI_add]
      refine ⟨fun hc => absurd hc (by omega), fun _ => ?_⟩
      rw [nI_add]
      exact ih
  exact ⟨15, key 14 0 (by omega)⟩
/-- the set is a choice -/
def chB (d : DV) (S : Nat) : Bool := an (fun k => !(S.testBit k) || decide (mk (cl (vP d) (vB d) (vE d) k) (vn d) &&& S = 0)) (vn d)
theorem m_isChoice {d : DV} (hw : DW d) {y : Nat → Int32} (hm : DM d y) {S : Nat} (hS : S < 2 ^ 31) {Q : Int32 → Prop} (h : Q (if chB d S = true then 1 else 0)) : wn_X6_isChoice y (nI S) Q := by
  have hn := hw.1
  have h44 := hm.2.2.2
  obtain ⟨pf, hpf⟩ : ∃ pf : Nat → Bool, pf = fun k => !(S.testBit k) || decide (mk (cl (vP d) (vB d) (vE d) k) (vn d) &&& S = 0) := ⟨_, rfl⟩
  have hch : chB d S = an pf (vn d) := by rw [hpf]; rfl
  rw [hch] at h
  have key : ∀ m k : Nat, k + m = vn d → wl_n_X6_isChoice_4 y Q (m + 1) (nI S) (if an pf k = true then 1 else 0) (nI k) := by
    intro m
    induction m with
    | zero =>
      intro k hk
      rw [wl_n_X6_isChoice_4, z44, h44, z_le (by omega) (by omega)]
      refine ⟨zi44, fun _ => ?_, fun hc => absurd (by omega) hc⟩
      rw [show k = vn d by omega]; exact h
    | succ m ih =>
      intro k hk
      have ih := ih (k + 1) (by omega)
      rw [show an pf (k + 1) = (an pf k && pf k) from rfl, ← nI_1] at ih
      rw [wl_n_X6_isChoice_4, z44, h44, z_le (by omega) (by omega)]
      refine ⟨zi44, fun hc => absurd hc (by omega), fun _ => ⟨fun hc => ?_, fun hc => ?_⟩⟩
      · cases ha : an pf k
        · rw [ha] at ih; exact ih
        · rw [ha] at hc; exact absurd hc (by decide)
      · have ha : an pf k = true := by
          cases ha : an pf k
          · rw [ha] at hc; exact absurd rfl hc
          · rfl
        rw [ha, Bool.true_and] at ih
        have hp : pf k = (!(S.testBit k) || decide (mk (cl (vP d) (vB d) (vE d) k) (vn d) &&& S = 0)) := by rw [hpf]
        unfold wj_n_X6_isChoice_34
        rw [z_shr hS (by omega), z_1, z_and, Nat.and_one_is_mod, bit_shr, z_0, z_eq (by cases S.testBit k <;> decide) (by decide)]
        refine ⟨fun hb => ?_, fun hb => m_foesOf hw hm (by omega) ?_⟩
        · have hb : S.testBit k = false := by cases hb2 : S.testBit k <;> simp_all
          rw [hp, hb] at ih
          exact ih
        · have hb : S.testBit k = true := by cases hb2 : S.testBit k <;> simp_all
          have hlt : mk (cl (vP d) (vB d) (vE d) k) (vn d) &&& S < 2 ^ 31 := Nat.lt_of_le_of_lt Nat.and_le_right hS
          rw [hp, hb] at ih
          rw [z_and, z_eq hlt (by decide)]
          refine ⟨fun hx => ?_, fun hx => ?_⟩
          · rw [decide_eq_false hx] at ih; exact ih
          · rw [decide_eq_true hx] at ih; exact ih
  exact ⟨vn d + 1, key (vn d) 0 (by omega)⟩
theorem m_fameOfBooked {d : DV} (hw : DW d) {y : Nat → Int32} (hm : DM d y) (hK : vK d < 2 ^ 31) {Q : Int32 → Prop} (h : Q (nI (su (vK d) (vF d) (vn d)))) : wn_X6_fameOfBooked y Q := by
  have hn := hw.1
  have h44 := hm.2.2.2
  have h42 := hm.2.1
  have key : ∀ m k : Nat, k + m = vn d → wl_n_X6_fameOfBooked_4 y Q (m + 1) (nI (su (vK d) (vF d) k)) (nI k) := by
    intro m
    induction m with
    | zero =>
      intro k hk
      rw [wl_n_X6_fameOfBooked_4, z44, h44, z_le (by omega) (by omega)]
      refine ⟨zi44, fun _ => ?_, fun hc => absurd (by omega) hc⟩
      rw [show k = vn d by omega]; exact h
    | succ m ih =>
      intro k hk
      have ih := ih (k + 1) (by omega)
      unfold su at ih
      rw [← nI_1] at ih
      rw [wl_n_X6_fameOfBooked_4, z44, z42, h44, h42, z_le (by omega) (by omega), z28p, z_cl (by omega), (hm.1 k (by omega)).2.2, z_shr hK (by omega), z_1, z_and, Nat.and_one_is_mod, bit_shr, z_eq (by cases (vK d).testBit k <;> decide) (by decide)]
      refine ⟨zi44, fun hc => absurd hc (by omega), fun _ => ⟨zi42, fun hb => ?_, fun hb => ?_⟩⟩
      · have hb : (vK d).testBit k = false := by cases hb2 : (vK d).testBit k <;> simp_all
        rw [hb] at ih
        rw [z_0, nI_add, Nat.add_zero]
        exact ih
      · have hb : (vK d).testBit k = true := by cases hb2 : (vK d).testBit k <;> simp_all
        rw [hb] at ih
        rw [nI_add]
        exact ⟨z_in (by omega) (by decide), ih⟩
  exact ⟨vn d + 1, key (vn d) 0 (by omega)⟩
theorem m_isIn {d : DV} {y : Nat → Int32} (hm : DM d y) (hK : vK d < 2 ^ 31) {i : Nat} (hi : i < 31) {Q : Int32 → Prop} (h : Q (if (vK d).testBit i = true then 1 else 0)) : wn_X6_isIn y (nI i) Q := by
  unfold wn_X6_isIn
  rw [z42, hm.2.1, z_shr hK (by omega), z_1, z_and, Nat.and_one_is_mod, bit_shr, z_eq (by cases (vK d).testBit i <;> decide) (by decide)]
  refine ⟨zi42, fun hb => ?_, fun hb => ?_⟩
  · have hb : (vK d).testBit i = false := by cases hb2 : (vK d).testBit i <;> simp_all
    rw [hb] at h; exact h
  · have hb : (vK d).testBit i = true := by cases hb2 : (vK d).testBit i <;> simp_all
    rw [hb] at h; exact h
theorem m_in {a b e : Int64} {Q : Int32 → Prop} (h : Q (if b.toInt ≤ a.toInt ∧ a.toInt ≤ e.toInt then 1 else 0)) : wn_X6_in a b e Q := by
  unfold wn_X6_in
  rw [lg_cmp_lt, lg_cmp_gt, Int64.lt_iff_toInt_lt, Int64.lt_iff_toInt_lt]
  refine ⟨fun hc => ?_, fun hc => ⟨fun hc2 => ?_, fun hc2 => ?_⟩⟩
  · rw [if_neg (by omega)] at h; exact h
  · rw [if_neg (by omega)] at h; exact h
  · rw [if_pos (by omega)] at h; exact h
/-- a number of one of the first n -/
def isN (n : Nat) (x : Int32) : Prop := 0 ≤ x.toInt ∧ x.toInt < n
theorem isN_of {n : Nat} {x : Int32} (h : isN n x) (hn : n < 2 ^ 31) : ∃ j, j < n ∧ x = nI j := vp_in_of (vp_in_iff.mpr h) hn
theorem m_isThere {d : DV} (hn : vn d ≤ 14) {y : Nat → Int32} (hm : DM d y) {x : Int32} {Q : Int32 → Prop} (h1 : isN (vn d) x → Q 1) (h0 : ¬ isN (vn d) x → Q 0) : wn_X6_isThere y x Q := by
  unfold wn_X6_isThere
  rw [z44, hm.2.2.2]
  refine ⟨zi44, m_in ?_⟩
  have e : (nI (vn d) - (1 : Int32)).toInt = (vn d : Int) - 1 := by rw [z_1]; exact pk_sub_toInt (by omega) (by decide)
  rw [Int32.toInt_toInt64, Int32.toInt_toInt64, e]
  have e0 : (0 : Int64).toInt = 0 := by decide
  rw [e0]
  unfold isN at h1 h0
  by_cases hc : 0 ≤ x.toInt ∧ x.toInt < vn d
  · rw [if_pos (by omega)]; exact h1 hc
  · rw [if_neg (by omega)]; exact h0 hc
