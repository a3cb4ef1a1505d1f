/-! the class's table -/
def preL (L : List Nat) (j k : Nat) : Prop := ∃ i, i < j ∧ L[i]? = some k
theorem s_overBy {d : DV} (ok : DOK d) {db de df : Nat → Int32} {dc dp dk : Int32} (hd : DC d db de df dc dp dk) {L : List Nat} (hL : L.Perm (List.range (vn d))) {ho : Nat → Int32} (hO : OL L ho) {q : Nat} (hq : q < 1000) {Q : Int32 → Prop} (h : ∀ o, o ≤ vn d → (∀ i k, i < o → L[i]? = some k → vE d k + vP d ≤ q) → (∀ k, L[o]? = some k → q < vE d k + vP d) → Q (nI o)) : wn_X0_overBy ho de dc dp (nI q) Q := by
  have hn := ok.1
  have hP := ok.2.1
  have hlen : L.length = vn d := by rw [hL.length_eq, List.length_range]
  obtain ⟨rfl, rfl, rfl, h4⟩ := hd
  have key : ∀ m o : Nat, o + m = vn d → (∀ i k, i < o → L[i]? = some k → vE d k + vP d ≤ q) → wl_n_X0_overBy_2 ho de (nI (vn d)) (nI (vP d)) Q (m + 1) (nI q) (nI o) := by
    intro m
    induction m with
    | zero =>
      intro o ho1 hlo
      rw [wl_n_X0_overBy_2, z_le (by omega) (by omega)]
      exact ⟨fun _ => h o (by omega) hlo (fun k hk => by rw [List.getElem?_eq_none (by omega)] at hk; cases hk), fun hc => absurd (by omega) hc⟩
    | succ m ih =>
      intro o ho1 hlo
      obtain ⟨r, hr⟩ : ∃ r, L[o]? = some r := ⟨L[o]'(by omega), List.getElem?_eq_getElem (by omega)⟩
      have hrn : r < vn d := by
        have h5 : r ∈ List.range (vn d) := hL.mem_iff.mp (List.mem_of_getElem? hr)
        rwa [List.mem_range] at h5
      have hE := (ok.2.2.1 r hrn).2.1
      rw [wl_n_X0_overBy_2, z_le (by omega) (by omega), z_cl (n := o) (by omega), hO o r hr, z_cl (n := r) (by omega), (h4 r hrn).2.1, nI_add, z_lt (by omega) (by omega), nI_1]
      refine ⟨fun hc => absurd hc (by omega), fun _ => ⟨z_in (by omega) (by decide), z_in (by omega) (by decide), fun hlt => h o (by omega) hlo (fun k hk => by rw [hr] at hk; cases hk; exact hlt), fun hlt => ih (o + 1) (by omega) (fun i k hi hk => ?_)⟩⟩
      by_cases hio : i = o
      · subst hio; rw [hr] at hk; cases hk; omega
      · exact hlo i k (by omega) hk
  exact ⟨vn d + 1, key (vn d) 0 (by omega) (fun i k hi => absurd hi (by omega))⟩
theorem s_fameAmong {d : DV} (ok : DOK d) {db de df ho ht : Nat → Int32} {dc dp dk : Int32} (hd : DC d db de df dc dp dk) {A : Nat} (hA : A < 2 ^ 31) {Q : Int32 → (Nat → Int32) → (Nat → Int32) → Prop} (h : ∀ (x : Nat) (ho' ht' : Nat → Int32), bestIn d (fun k => A.testBit k = true) x → Q (nI x) ho' ht') : wn_X0_fameAmong ho ht db de df dc dp (nI A) Q := by
  have hn := ok.1
  have hd0 := hd
  obtain ⟨rfl, rfl, rfl, h4⟩ := hd
  unfold wn_X0_fameAmong
  refine s_orderBy hn (B := vE d) (fun k hk => by have := (ok.2.2.1 k hk).2.1; omega) (fun k hk => (h4 k hk).2.1) (fun L vv hL hs hO => ⟨z_in (n := 0) (by decide) (by decide), ?_⟩)
  have hlen : L.length = vn d := by rw [hL.length_eq, List.length_range]
  have hmem : ∀ i k, L[i]? = some k → k < vn d := fun i k hk => by
    have h5 : k ∈ List.range (vn d) := hL.mem_iff.mp (List.mem_of_getElem? hk)
    rwa [List.mem_range] at h5
  have hrk : ∀ i j a b, i < j → L[i]? = some a → L[j]? = some b → rk (vE d) a b := fun i j a b hij ha hb => by
    obtain ⟨hi, ea⟩ := List.getElem?_eq_some_iff.mp ha
    obtain ⟨hj, eb⟩ := List.getElem?_eq_some_iff.mp hb
    have := List.pairwise_iff_getElem.mp hs i j hi hj hij
    rwa [ea, eb] at this
  have hle700 : ∀ {M : Nat → Prop} {x : Nat}, bestIn d M x → x ≤ 700 := by
    intro M x hx
    obtain ⟨⟨S, -, -, -, e⟩, -⟩ := hx
    rw [← e]
    exact suF_le ok S
  have key : ∀ (m j : Nat) (tt : Nat → Int32), j + m = vn d → (∀ i, i ≤ j → ∃ x, tt i = nI x ∧ bestIn d (fun k => preL L i k ∧ A.testBit k = true) x) → wl_n_X0_fameAmong_24 db de df (nI (vn d)) (nI (vP d)) Q (m + 1) vv tt (nI A) (nI j) := by
    intro m
    induction m with
    | zero =>
      intro j tt hj hT
      rw [wl_n_X0_fameAmong_24, z_le (by omega) (by omega)]
      refine ⟨fun _ => ⟨z_in (by omega) (by decide), ?_⟩, fun hc => absurd (by omega) hc⟩
      obtain ⟨x, e, hx⟩ := hT (vn d) (by omega)
      rw [z_cl (by omega), e]
      refine h x _ _ (bestIn_congr (fun k hk => ⟨fun hh => hh.2, fun hh => ⟨?_, hh⟩⟩) hx)
      have h6 : k ∈ L := hL.mem_iff.mpr (List.mem_range.mpr hk)
      obtain ⟨i, hi⟩ := List.mem_iff_getElem?.mp h6
      exact ⟨i, by have := (List.getElem?_eq_some_iff.mp hi).1; omega, hi⟩
    | succ m ih =>
      intro j tt hj hT
      obtain ⟨r, hr⟩ : ∃ r, L[j]? = some r := ⟨L[j]'(by omega), List.getElem?_eq_getElem (by omega)⟩
      have hrn := hmem j r hr
      obtain ⟨g1, g2, g3, g4⟩ := ok.2.2.1 r hrn
      obtain ⟨x, ex, hx⟩ := hT j (Nat.le_refl j)
      have hx7 := hle700 hx
      have next : ∀ (v y : Nat), v ≤ 1000 → y = max x v → bestIn d (fun k => preL L (j + 1) k ∧ A.testBit k = true) y → wj_n_X0_fameAmong_79 db de df (nI (vn d)) (nI (vP d)) Q (fun z0 z1 z2 z3 => wl_n_X0_fameAmong_24 db de df (nI (vn d)) (nI (vP d)) Q (m + 1) z0 z1 z2 z3) vv tt (nI A) (nI j) (nI r) (nI v) := by
        intro v y hv hy hb
        unfold wj_n_X0_fameAmong_79
        have e1 : (if nI x < nI v then nI v else nI x) = nI y := by
          by_cases hlt : nI x < nI v
          · rw [if_pos hlt]; rw [z_lt (by omega) (by omega)] at hlt; rw [hy, Nat.max_eq_right (by omega)]
          · rw [if_neg hlt]; rw [z_lt (by omega) (by omega)] at hlt; rw [hy, Nat.max_eq_left (by omega)]
        rw [nI_1, z_cl (n := j + 1) (by omega), z_cl (n := j) (by omega), ex, e1]
        refine ⟨z_in (by omega) (by decide), z_in (by omega) (by decide), ih (j + 1) _ (by omega) (fun i hi => ?_)⟩
        by_cases hij : i = j + 1
        · subst hij; exact ⟨y, pk_us, hb⟩
        · rw [pk_un hij]; exact hT i (by omega)
      have hpre : ∀ k, preL L (j + 1) k ↔ preL L j k ∨ k = r := by
        intro k
        constructor
        · rintro ⟨i, hi, hk⟩
          by_cases hij : i = j
          · subst hij; rw [hr] at hk; cases hk; exact Or.inr rfl
          · exact Or.inl ⟨i, by omega, hk⟩
        · rintro (⟨i, hi, hk⟩ | rfl)
          · exact ⟨i, by omega, hk⟩
          · exact ⟨j, by omega, hr⟩
      rw [wl_n_X0_fameAmong_24, z_le (by omega) (by omega), z_cl (n := j) (by omega), hO j r hr, z_cl (n := r) (by omega), (h4 r hrn).1, (h4 r hrn).2.2]
      refine ⟨fun hc => absurd hc (by omega), fun _ => ⟨z_in (by omega) (by decide), s_isIn hA (by omega) ?_⟩⟩
      cases hb : A.testBit r
      · refine ⟨fun _ => next 0 x (by omega) (by omega) (bestIn_congr (fun k hk => ⟨fun hh => ⟨(hpre k).mpr (Or.inl hh.1), hh.2⟩, fun hh => ⟨((hpre k).mp hh.1).resolve_right (fun e => ?_), hh.2⟩⟩) hx), fun hc => absurd rfl hc⟩
        have := hh.2
        rw [e, hb] at this; cases this
      · refine ⟨fun hc => absurd hc (by decide), fun _ => ⟨z_in (by omega) (by decide), z_in (by omega) (by decide), s_overBy ok hd0 hL hO (by omega) (fun o hon hlo hhi => ?_)⟩⟩
        have hoj : o ≤ j := by
          rcases Nat.lt_or_ge j o with h5 | h5
          · have := hlo j r h5 hr; omega
          · exact h5
        obtain ⟨y, ey, hy⟩ := hT o hoj
        have hy7 := hle700 hy
        refine ⟨z_in (by omega) (by decide), fun v hv => ?_⟩
        rw [z_cl (n := o) (by omega), ey, nI_add] at hv
        subst hv
        refine next (vF d r + y) _ (by omega) rfl (bestIn_step ok hrn (M := fun k => preL L j k ∧ A.testBit k = true) (O := fun k => preL L o k ∧ A.testBit k = true) (fun k hk => ⟨fun hh => ?_, fun hh => ?_⟩) (fun hh => ?_) (fun k hk => ⟨fun hh => ?_, fun hh => ?_⟩) hx hy)
        · rcases (hpre k).mp hh.1 with h6 | h6
          · exact Or.inl ⟨h6, hh.2⟩
          · exact Or.inr h6
        · rcases hh with h6 | rfl
          · exact ⟨(hpre k).mpr (Or.inl h6.1), h6.2⟩
          · exact ⟨(hpre k).mpr (Or.inr rfl), hb⟩
        · obtain ⟨⟨i, hi, hk⟩, -⟩ := hh
          have := hrk i j r r hi hk hr
          unfold rk at this; omega
        · obtain ⟨⟨i, hi, hik⟩, hAk⟩ := hh
          refine ⟨⟨⟨i, by omega, hik⟩, hAk⟩, ?_⟩
          have := hlo i k hi hik
          unfold cl
          rw [decide_eq_false (by omega : ¬ vB d r < vE d k + vP d), Bool.and_false, Bool.and_false]
        · obtain ⟨⟨⟨i, hi, hik⟩, hAk⟩, hcl⟩ := hh
          refine ⟨⟨i, ?_, hik⟩, hAk⟩
          have hkr := hrk i j k r hi hik hr
          have gk := (ok.2.2.1 k hk).1
          have hover : vE d k + vP d ≤ vB d r := by
            rcases Nat.lt_or_ge (vB d r) (vE d k + vP d) with h6 | h6
            · exfalso
              have hne : r ≠ k := by
                intro e
                subst e
                unfold rk at hkr
                omega
              unfold rk at hkr
              unfold cl at hcl
              rw [decide_eq_true hne, decide_eq_true (by omega : vB d k < vE d r + vP d), decide_eq_true h6] at hcl
              cases hcl
            · exact h6
          rcases Nat.lt_or_ge i o with h6 | h6
          · exact h6
          · obtain ⟨b, hob⟩ : ∃ b, L[o]? = some b := ⟨L[o]'(by omega), List.getElem?_eq_getElem (by omega)⟩
            have h7 := hhi b hob
            rcases Nat.lt_or_ge o i with h8 | h8
            · have h9 := hrk o i b k h8 hob hik
              unfold rk at h9; omega
            · have : o = i := by omega
              subst this; rw [hik] at hob; cases hob; omega
  refine ⟨vn d + 1, key (vn d) 0 _ (by omega) (fun i hi => ?_)⟩
  have h0 : i = 0 := by omega
  subst h0
  refine ⟨0, pk_us, bestIn_congr (fun k _ => ⟨fun hh => hh.elim, fun hh => ?_⟩) (bestIn_0 d)⟩
  obtain ⟨⟨i, hi, -⟩, -⟩ := hh
  omega
