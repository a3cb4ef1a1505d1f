/-! p42: the law, over two objects that hold the same -/
theorem stp_ex (t : Nat → Nat) : ∀ n, ∃ q, stpAt t n q := by
  intro n
  induction n with
  | zero => exact ⟨0, _, rfl, Or.inr rfl⟩
  | succ n ih =>
    obtain ⟨q, s, h1, h2⟩ := ih
    rcases h2 with ⟨h3, h4⟩ | h3
    · exact ⟨q, s, h1, Or.inl ⟨by omega, h4⟩⟩
    · subst h3
      cases h : stp s (t q) with
      | none => exact ⟨q, s, h1, Or.inl ⟨by omega, h⟩⟩
      | some s' => exact ⟨q + 1, s', by rw [runT_s h1]; exact h, Or.inr rfl⟩
theorem HB.len {st : ST} {o : OB} (h : HB st o) : st.2.1.length ≤ 6 := by
  obtain ⟨-, -, ⟨o1, -, -, -, h, -⟩, -⟩ := h
  exact h
theorem two_alike {st : ST} {o v : OB} (h1 : HB st o) (h2 : HB st v) {Q : Int32 → OB → OB → Prop} (k : ∀ o' v', HB st o' → HB st v' → Q 1 o' v') : wb_L_alike o v Q := by
  obtain ⟨L, R, W, b, x, mo, hdg⟩ := dgO_ex st.1
  obtain ⟨q, hq⟩ := stp_ex st.2.2.2.2 st.2.2.2.1
  unfold wb_L_alike
  exact run_digest hdg o h1 _ (fun o1 g1 => run_digest hdg v h2 _ (fun v1 g2 => ⟨fun n => absurd (lgc _) n, fun _ => run_firstError hq o1 g1 _ (fun o2 g3 => run_firstError hq v1 g2 _ (fun v2 g4 => ⟨fun n => absurd rfl n, fun _ => k _ _ g3 g4⟩))⟩))
section
variable {xs : Nat → Int32} {L : Nat} {K : OB → OB → Int32 → Int32 → Prop}
theorem law_218 {st : ST} {o v : OB} (h1 : HB st o) (h2 : HB st v) {x4 x5 x6 : Int32} (hK : ∀ st o v, HB st o → HB st v → K o v 1 (x4 + 1)) : wj_b_L_law_218 xs L K o v 1 x4 x5 x6 := by
  unfold wj_b_L_law_218
  exact ⟨fun h => absurd h (by decide), fun _ => ⟨fun _ => hK st _ _ h1 h2, fun _ => two_alike h1 h2 (fun o' v' g1 g2 => ⟨fun h => absurd h (by decide), fun _ => hK st _ _ g1 g2⟩)⟩⟩
/-- the day saved so many times -/
def itp (d : DV) (S : List DV) : Nat → List DV
  | 0 => S
  | j + 1 => psh (itp d S j) d
theorem law_181 {d : DV} {S T : List DV} {R : (Nat → Option DV) × Nat × (Nat → Nat)} (hR : R.1 1 = some d) (hS : S.length ≤ 6) (hT : T.length ≤ 6) {x4 x5 x6 : Int32} (hK : ∀ st o v, HB st o → HB st v → K o v 1 (x4 + 1)) :
    ∀ (m j : Nat) (o v : OB), 6 ≤ j + m → j ≤ 6 → HB (d, itp d S j, R) o → HB (d, itp d T j, R) v → wl_b_L_law_181 xs L K (m + 1) o v 1 x4 x5 x6 (nI j) := by
  have fin : ∀ o v : OB, HB (d, itp d S 6, R) o → HB (d, itp d T 6, R) v → wj_b_L_law_218 xs L K o v 1 x4 x5 x6 := by
    intro o v h1 h2
    have e1 : itp d S 6 = [d, d, d, d, d, d] := psh_six hS d
    have e2 : itp d T 6 = [d, d, d, d, d, d] := psh_six hT d
    rw [e1] at h1
    rw [e2] at h2
    exact law_218 h1 h2 hK
  intro m
  induction m with
  | zero =>
    intro j o v hj hj2 h1 h2
    have e : j = 6 := by omega
    subst e
    rw [wl_b_L_law_181]
    exact ⟨fun _ => fin o v h1 h2, fun h => absurd (by decide) h⟩
  | succ m ih =>
    intro j o v hj hj2 h1 h2
    rw [wl_b_L_law_181, z_6, z_le (by omega) (by omega)]
    refine ⟨fun h => ?_, fun h => ⟨fun h => absurd h (by decide), fun _ => ?_⟩⟩
    · have e : j = 6 := by omega
      subst e
      exact fin o v h1 h2
    · refine run_back (st := (d, itp d S j, R)) (i := 1) (e := d) (by decide) hR o h1 _ (fun o1 g1 => run_back (st := (d, itp d T j, R)) (i := 1) (e := d) (by decide) hR v h2 _ (fun v1 g2 => ⟨fun n => absurd (lgc _) n, fun _ => ?_⟩))
      rw [nI_1]
      exact ih (j + 1) o1 v1 (by omega) (by omega) g1 g2
theorem law_139 {st : ST} {o v : OB} (h1 : HB st o) (h2 : HB st v) {x4 x5 : Int32} {y : Nat} (hy : y < 2 ^ 31) (hK : ∀ st o v, HB st o → HB st v → K o v 1 (x4 + 1)) : wj_b_L_law_139 xs L K o v 1 x4 x5 (nI y) := by
  unfold wj_b_L_law_139
  refine ⟨fun _ => law_218 h1 h2 hK, fun _ => ⟨fun h => absurd h (by decide), fun _ => ?_⟩⟩
  obtain ⟨T, t1, t2, hf⟩ := run_follows h2.1 h2.len hy
  refine hf v h2 _ (fun v1 g2 => ⟨fun h => absurd h (by decide), fun _ => run_keep (i := 1) (by decide) o h1 _ (fun o1 g1 => ⟨fun n => absurd (lgc _) n, fun _ => ?_⟩)⟩)
  exact law_181 (d := st.1) (S := st.2.1) (T := T) (R := (upO st.2.2.1 1 st.1, st.2.2.2)) (show upO st.2.2.1 1 st.1 1 = some st.1 from if_pos rfl) h1.len t1 hK 6 0 o1 v1 (by omega) (by omega) g1 g2
theorem law_105 {st : ST} {o v : OB} (h1 : HB st o) (h2 : HB st v) {x3 x4 x5 : Int32} {y : Nat} (hy : y < 2 ^ 31) (hK : ∀ st o v, HB st o → HB st v → K o v 1 (x4 + 1)) : wj_b_L_law_105 xs L K o v x3 x4 x5 (nI y) 1 := by
  unfold wj_b_L_law_105
  refine ⟨fun _ => law_139 h1 h2 hy hK, fun _ => ⟨fun h => absurd h (by decide), fun _ => ?_⟩⟩
  refine run_errors h2.1 v h2 _ (fun v1 g1 => ⟨fun h => absurd h (by decide), fun _ => run_kept g1.1 g1.len v1 g1 _ (fun v2 g2 => ⟨fun h => absurd h (by decide), fun _ => ?_⟩)⟩)
  unfold wj_b_L_law_138
  exact law_139 h1 g2 hy hK
end
section
variable {xs : Nat → Int32} {L : Nat}
theorem draw_nI (k : Int32) : ∃ j : Nat, j < 2 ^ 31 ∧ drawV xs L k = nI j := ⟨_, Nat.mod_lt _ (by decide), pk_and _ 31 (by decide)⟩
theorem law_47 (hL : L ≤ 260) : ∀ (m i : Nat) (st : ST) (o v : OB), 40 ≤ i + m → i ≤ 40 → HB st o → HB st v → wl_b_L_law_47 xs L (m + 1) o v 1 (nI i) := by
  have i250 : ∀ {st : ST} {o v : OB} {x4 : Int32}, HB st o → HB st v → wj_b_L_law_250 xs L o v 1 x4 := by
    intro st o v x4 h1 h2
    unfold wj_b_L_law_250
    exact ⟨fun h => absurd h (by decide), fun _ => two_alike h1 h2 (fun _ _ _ _ => ⟨fun h => absurd h (by decide), fun _ => trivial⟩)⟩
  intro m
  induction m with
  | zero =>
    intro i st o v hi hi2 h1 h2
    have e : i = 40 := by omega
    subst e
    rw [wl_b_L_law_47]
    exact ⟨fun _ => i250 h1 h2, fun h => absurd (by decide) h⟩
  | succ m ih =>
    intro i st o v hi hi2 h1 h2
    rw [wl_b_L_law_47]
    refine ⟨fun _ => i250 h1 h2, fun h => ⟨fun h => absurd h (by decide), fun _ => ?_⟩⟩
    rw [show (40 : Int32) = nI 40 from rfl, z_le (by decide) (by omega)] at h
    have e1 : (2 : Int32) * nI i = nI (2 * i) := by rw [z_2, pk_mul]
    have e2 : nI (2 * i) + (1 : Int32) = nI (2 * i + 1) := nI_1 _
    have hin : ∀ k : Nat, k < 200 → ¬ Int32.ofNat L ≤ nI k → vp_in (nI k) L := by
      intro k hk hx
      have hx : ¬ nI L ≤ nI k := hx
      rw [z_le (by omega) (by omega)] at hx
      exact z_in (by omega) (by omega)
    rw [e1, e2]
    refine ⟨hin _ (by omega), hin _ (by omega), ?_⟩
    obtain ⟨y, hy, ey⟩ := draw_nI (xs := xs) (L := L) (nI (2 * i + 1))
    rw [ey]
    obtain ⟨r, st1, hact⟩ := det_act h1.1.1.1 hy (drawV xs L (nI (2 * i)))
    refine hact o h1 _ (fun o1 g1 => hact v h2 _ (fun v1 g2 => ⟨fun n => absurd (lgc _) n, fun _ => ?_⟩))
    exact law_105 (K := fun z0 z1 z2 z3 => wl_b_L_law_47 xs L (m + 1) z0 z1 z2 z3) g1 g2 hy (fun st o v q1 q2 => by
      show wl_b_L_law_47 xs L (m + 1) o v 1 (nI i + 1)
      rw [nI_1]
      exact ih (i + 1) st o v (by omega) (by omega) q1 q2)
theorem law_holds (hL : L ≤ 260) {st : ST} {o v : OB} (h1 : HB st o) (h2 : HB st v) : wb_law xs L o v := by
  unfold wb_law
  refine two_alike h1 h2 (fun o1 v1 g1 g2 => ⟨fun h => absurd h (by decide), fun _ => ?_⟩)
  refine run_errors g1.1 o1 g1 _ (fun o2 g3 => ⟨fun h => absurd h (by decide), fun _ => run_kept g3.1 g3.len o2 g3 _ (fun o3 g4 => ⟨fun h => absurd h (by decide), fun _ => ?_⟩)⟩)
  exact law_47 hL 40 0 st o3 v1 (by omega) (by omega) g4 g2
end
