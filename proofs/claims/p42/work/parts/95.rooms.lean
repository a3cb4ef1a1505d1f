/-! rooms: the order, the lowest free room, how many are needed -/
theorem ord_un {B : Nat → Nat} : ∀ {L M : List Nat}, L.Perm M → L.Pairwise (rk B) → M.Pairwise (rk B) → L = M
  | [], M, hp, _, _ => hp.nil_eq
  | a :: L, [], hp, _, _ => by
    have := hp.length_eq
    simp at this
  | a :: L, b :: M, hp, h1, h2 => by
    have h1' := List.pairwise_cons.mp h1
    have h2' := List.pairwise_cons.mp h2
    have hab : a = b := by
      by_cases hab : a = b
      · exact hab
      · have ha : a ∈ b :: M := hp.mem_iff.mp List.mem_cons_self
        have hb : b ∈ a :: L := hp.mem_iff.mpr List.mem_cons_self
        have ha2 : a ∈ M := (List.mem_cons.mp ha).resolve_left hab
        have hb2 : b ∈ L := (List.mem_cons.mp hb).resolve_left (Ne.symm hab)
        have k1 := h1'.1 b hb2
        have k2 := h2'.1 a ha2
        unfold rk at k1 k2
        omega
    subst hab
    rw [ord_un hp.cons_inv h1'.2 h2'.2]
theorem ins_ex {B : Nat → Nat} (c : Nat) : ∀ {L : List Nat}, L.Pairwise (rk B) → ∃ p, p ≤ L.length ∧ (∀ a, a ∈ L.take p → B a ≤ c) ∧ (∀ b, b ∈ L.drop p → c < B b)
  | [], _ => ⟨0, Nat.le_refl 0, (fun a ha => by cases ha), (fun b hb => by cases hb)⟩
  | a :: L, h => by
    have h' := List.pairwise_cons.mp h
    by_cases hc : B a ≤ c
    · obtain ⟨p, h1, h2, h3⟩ := ins_ex c h'.2
      refine ⟨p + 1, by rw [List.length_cons]; omega, fun x hx => ?_, fun x hx => ?_⟩
      · rw [List.take_succ_cons] at hx
        rcases List.mem_cons.mp hx with rfl | hx
        · exact hc
        · exact h2 x hx
      · rw [List.drop_succ_cons] at hx
        exact h3 x hx
    · refine ⟨0, Nat.zero_le _, fun x hx => (by rw [List.take_zero] at hx; cases hx), fun x hx => ?_⟩
      rw [List.drop_zero] at hx
      rcases List.mem_cons.mp hx with rfl | hx
      · omega
      · have := h'.1 x hx
        unfold rk at this
        omega
theorem ord_ex (B : Nat → Nat) : ∀ n, ∃ L : List Nat, L.Perm (List.range n) ∧ L.Pairwise (rk B)
  | 0 => ⟨[], List.Perm.refl _, List.Pairwise.nil⟩
  | n + 1 => by
    obtain ⟨L, h1, h2⟩ := ord_ex B n
    obtain ⟨p, hp, h3, h4⟩ := ins_ex (B n) h2
    exact ⟨insA L p n, insA_perm h1, insA_pw h1 h2 h3 h4⟩
theorem low_ex (p : Nat → Prop) : ∀ m, ¬ p m → ∃ q, q ≤ m ∧ ¬ p q ∧ ∀ k, k < q → p k := by
  intro m
  induction m using Nat.strongRecOn with
  | ind m ih =>
    intro hm
    by_cases h : ∃ k, k < m ∧ ¬ p k
    · obtain ⟨k, h1, h2⟩ := h
      obtain ⟨q, q1, q2, q3⟩ := ih k h1 h2
      exact ⟨q, by omega, q2, q3⟩
    · exact ⟨m, Nat.le_refl m, hm, fun k hk => Classical.byContradiction (fun hk2 => h ⟨k, hk, hk2⟩)⟩
theorem low_un {p : Nat → Prop} {a b : Nat} (h1 : ¬ p a) (h2 : ∀ k, k < a → p k) (h3 : ¬ p b) (h4 : ∀ k, k < b → p k) : a = b := by
  rcases Nat.lt_trichotomy a b with h | h | h
  · exact absurd (h4 a h) h1
  · exact h
  · exact absurd (h2 b h) h3
/-- a rehearsal in conflict with r, of the first j in the order, has room q -/
def flR (d : DV) (L : List Nat) (R : Nat → Nat) (j r q : Nat) : Prop := ∃ k, preL L j k ∧ cl (vP d) (vB d) (vE d) r k = true ∧ R k = q
/-- the first j in the order have got their rooms -/
def gvn (d : DV) (L : List Nat) (R : Nat → Nat) (j : Nat) : Prop := ∀ i r, i < j → L[i]? = some r → ¬ flR d L R i r (R r) ∧ ∀ q, q < R r → flR d L R i r q
theorem gvn_le {d : DV} {L : List Nat} {R : Nat → Nat} {j : Nat} (h : gvn d L R j) : ∀ i r, i < j → L[i]? = some r → R r ≤ i := by
  intro i
  induction i using Nat.strongRecOn with
  | ind i ih =>
    intro r hi hr
    rcases Nat.lt_or_ge i (R r) with h1 | h1
    · obtain ⟨k, ⟨i2, hi2, hk⟩, -, e⟩ := (h i r hi hr).2 i h1
      have := ih i2 hi2 k (by omega) hk
      omega
    · exact h1
theorem flR_up {d : DV} {L : List Nat} {R : Nat → Nat} {i j r v s q : Nat} (hij : i ≤ j) (hr : ¬ preL L j r) : flR d L (upN R r v) i s q ↔ flR d L R i s q := by
  have hne : ∀ k, preL L i k → k ≠ r := by
    rintro k ⟨i2, h1, h2⟩ e
    subst e
    exact hr ⟨i2, by omega, h2⟩
  constructor
  · rintro ⟨k, h1, h2, h3⟩
    rw [upN_n (hne k h1)] at h3
    exact ⟨k, h1, h2, h3⟩
  · rintro ⟨k, h1, h2, h3⟩
    exact ⟨k, h1, h2, by rw [upN_n (hne k h1)]; exact h3⟩
/-- the order of a day's rehearsals by their begins -/
def ordB (d : DV) (L : List Nat) : Prop := L.Perm (List.range (vn d)) ∧ L.Pairwise (rk (vB d))
theorem ordB.len {d : DV} {L : List Nat} (h : ordB d L) : L.length = vn d := by rw [h.1.length_eq, List.length_range]
theorem ordB.lt {d : DV} {L : List Nat} (h : ordB d L) {i k : Nat} (hk : L[i]? = some k) : k < vn d := by
  have h5 : k ∈ List.range (vn d) := h.1.mem_iff.mp (List.mem_of_getElem? hk)
  rwa [List.mem_range] at h5
theorem ordB.at {d : DV} {L : List Nat} (h : ordB d L) {j : Nat} (hj : j < vn d) : ∃ r, L[j]? = some r :=
  ⟨L[j]'(by rw [h.len]; exact hj), List.getElem?_eq_getElem (by rw [h.len]; exact hj)⟩
theorem ordB.rk {d : DV} {L : List Nat} (h : ordB d L) {i j a b : Nat} (hij : i < j) (ha : L[i]? = some a) (hb : L[j]? = some b) : vB d a < vB d b ∨ (vB d a = vB d b ∧ a < b) := by
  obtain ⟨hi, ea⟩ := List.getElem?_eq_some_iff.mp ha
  obtain ⟨hj, eb⟩ := List.getElem?_eq_some_iff.mp hb
  have := List.pairwise_iff_getElem.mp h.2 i j hi hj hij
  rwa [ea, eb] at this
theorem ordB.mem {d : DV} {L : List Nat} (h : ordB d L) {k : Nat} (hk : k < vn d) : ∃ i, i < vn d ∧ L[i]? = some k := by
  have h6 : k ∈ L := h.1.mem_iff.mpr (List.mem_range.mpr hk)
  obtain ⟨i, hi⟩ := List.mem_iff_getElem?.mp h6
  exact ⟨i, by have := (List.getElem?_eq_some_iff.mp hi).1; rw [h.len] at this; exact this, hi⟩
theorem ordB.not {d : DV} {L : List Nat} (h : ordB d L) {j r : Nat} (hr : L[j]? = some r) : ¬ preL L j r := by
  rintro ⟨i, hi, hk⟩
  have := h.rk hi hk hr
  omega
theorem ordB.nlt {d : DV} {L : List Nat} {j k : Nat} (h : ordB d L) (hk : preL L j k) : k < vn d := by
  obtain ⟨i, -, h2⟩ := hk
  exact h.lt h2
theorem preL_succ {L : List Nat} {j r : Nat} (hr : L[j]? = some r) (k : Nat) : preL L (j + 1) k ↔ preL L j k ∨ k = r := by
  constructor
  · rintro ⟨i, hi, hk⟩
    by_cases hij : i = j
    · subst hij; rw [hr] at hk; cases hk; exact Or.inr rfl
    · exact Or.inl ⟨i, by omega, hk⟩
  · rintro (⟨i, hi, hk⟩ | rfl)
    · exact ⟨i, by omega, hk⟩
    · exact ⟨j, by omega, hr⟩
theorem preL_all {d : DV} {L : List Nat} (h : ordB d L) {k : Nat} : preL L (vn d) k ↔ k < vn d := by
  constructor
  · exact fun hk => h.nlt hk
  · intro hk
    obtain ⟨i, h1, h2⟩ := h.mem hk
    exact ⟨i, h1, h2⟩
theorem gvn_ex {d : DV} {L : List Nat} (h : ordB d L) : ∀ j, j ≤ vn d → ∃ R, gvn d L R j
  | 0, _ => ⟨fun _ => 0, fun i r hi => absurd hi (by omega)⟩
  | j + 1, hj => by
    obtain ⟨R, hR⟩ := gvn_ex h j (by omega)
    obtain ⟨r, hr⟩ := h.at (j := j) (by omega)
    have hfree : ¬ flR d L R j r j := by
      rintro ⟨k, ⟨i, hi, hk⟩, -, e⟩
      have := gvn_le hR i k hi hk
      omega
    obtain ⟨q, -, q2, q3⟩ := low_ex (flR d L R j r) j hfree
    refine ⟨upN R r q, fun i s hi hs => ?_⟩
    by_cases hij : i = j
    · subst hij
      rw [hr] at hs
      cases hs
      rw [upN_s, flR_up (Nat.le_refl _) (h.not hr)]
      exact ⟨q2, fun q' hq' => (flR_up (Nat.le_refl _) (h.not hr)).mpr (q3 q' hq')⟩
    · have hsr : s ≠ r := fun e => by
        subst e
        exact h.not hr ⟨i, by omega, hs⟩
      have h1 := hR i s (by omega) hs
      rw [upN_n hsr, flR_up (by omega : i ≤ j) (h.not hr)]
      exact ⟨h1.1, fun q' hq' => (flR_up (by omega : i ≤ j) (h.not hr)).mpr (h1.2 q' hq')⟩
theorem gvn.cut {d : DV} {L : List Nat} {R : Nat → Nat} {j m : Nat} (h : gvn d L R j) (hm : m ≤ j) : gvn d L R m := fun i r hi hr => h i r (by omega) hr
/-- x is the number of rooms that M's rehearsals take up -/
def mxO (M : Nat → Prop) (R : Nat → Nat) (x : Nat) : Prop := (∀ k, M k → R k + 1 ≤ x) ∧ (x = 0 ∨ ∃ k, M k ∧ R k + 1 = x)
theorem mxO_un {M : Nat → Prop} {R : Nat → Nat} {x y : Nat} (hx : mxO M R x) (hy : mxO M R y) : x = y := by
  have h1 : x ≤ y := by
    rcases hx.2 with h | ⟨k, h1, h2⟩
    · omega
    · have := hy.1 k h1; omega
  have h2 : y ≤ x := by
    rcases hy.2 with h | ⟨k, h1, h2⟩
    · omega
    · have := hx.1 k h1; omega
  omega
theorem mxO_step {M N : Nat → Prop} {R : Nat → Nat} {x r : Nat} (h : mxO M R x) (hN : ∀ k, N k ↔ M k ∨ k = r) : mxO N R (if x < R r + 1 then R r + 1 else x) := by
  refine ⟨fun k hk => ?_, ?_⟩
  · rcases (hN k).mp hk with h1 | rfl
    · have := h.1 k h1
      split <;> omega
    · split <;> omega
  · by_cases hc : x < R r + 1
    · rw [if_pos hc]; exact Or.inr ⟨r, (hN r).mpr (Or.inr rfl), rfl⟩
    · rw [if_neg hc]
      rcases h.2 with h1 | ⟨k, h1, h2⟩
      · exact Or.inl h1
      · exact Or.inr ⟨k, (hN k).mpr (Or.inl h1), h2⟩
theorem mxO_congr {M N : Nat → Prop} {R : Nat → Nat} {x : Nat} (h : mxO M R x) (hN : ∀ k, M k ↔ N k) : mxO N R x :=
  ⟨fun k hk => h.1 k ((hN k).mpr hk), h.2.elim Or.inl (fun ⟨k, h1, h2⟩ => Or.inr ⟨k, (hN k).mp h1, h2⟩)⟩
theorem mxO_0 (R : Nat → Nat) : mxO (fun _ => False) R 0 := ⟨fun _ h => h.elim, Or.inl rfl⟩
/-! a mask of rooms -/
theorem or_bit {m k q : Nat} : (m ||| 2 ^ k).testBit q = true ↔ m.testBit q = true ∨ k = q := by
  rw [Nat.testBit_or, Nat.testBit_two_pow, Bool.or_eq_true, decide_eq_true_eq]
theorem or_lt14 {m k : Nat} (hm : m < 2 ^ 14) (hk : k < 14) : m ||| 2 ^ k < 2 ^ 14 := Nat.or_lt_two_pow hm (Nat.pow_lt_pow_right (by decide) hk)
section
variable {d : DV} {db de df : Nat → Int32} {dc dp dk : Int32}
theorem s_lowest (ok : DOK d) (hd : DC d db de df dc dp dk) {L : List Nat} {R : Nat → Nat} (hL : ordB d L) (hg : gvn d L R (vn d)) {ro rg : Nat → Int32} (hO : OL L ro) {j r : Nat} (hj : j < vn d) (hr : L[j]? = some r) (hR : ∀ k, preL L j k → rg k = nI (R k)) {Q : Int32 → Prop} (h : Q (nI (R r))) : wn_X2_lowestRoomFor ro rg db de dp (nI j) Q := by
  have hn := ok.1
  have hD := hd.r ok
  have hrn := hL.lt hr
  have hgj := hg j r hj hr
  have hRr := gvn_le hg j r hj hr
  have low : ∀ m, m < 2 ^ 14 → (∀ q, m.testBit q = true ↔ flR d L R j r q) → wl_n_X2_lowestRoomFor_58 ro rg db de dp Q (R r + 1) (nI j) (nI m) 0 := by
    intro m hm hb
    have key : ∀ t c : Nat, c + t = R r → wl_n_X2_lowestRoomFor_58 ro rg db de dp Q (t + 1) (nI j) (nI m) (nI c) := by
      intro t
      induction t with
      | zero =>
        intro c hc
        have hcR : c = R r := by omega
        rw [wl_n_X2_lowestRoomFor_58, z_le (by omega) (by omega)]
        refine ⟨fun _ => by rw [hcR]; exact h, fun _ => s_isIn (by omega) (by omega) ?_⟩
        have hf : m.testBit c = false := by
          cases hx : m.testBit c
          · rfl
          · rw [hb, hcR] at hx; exact absurd hx hgj.1
        rw [hf]
        exact ⟨fun _ => by rw [hcR]; exact h, fun hx => absurd rfl hx⟩
      | succ t ih =>
        intro c hc
        rw [wl_n_X2_lowestRoomFor_58, z_le (by omega) (by omega), nI_1]
        refine ⟨fun hx => absurd hx (by omega), fun _ => s_isIn (by omega) (by omega) ?_⟩
        rw [(hb c).mpr (hgj.2 c (by omega))]
        exact ⟨fun hx => absurd hx (by decide), fun _ => ih (c + 1) (by omega)⟩
    exact key (R r) 0 (by omega)
  have key : ∀ t a m : Nat, a + t = j → m < 2 ^ 14 → (∀ q, m.testBit q = true ↔ flR d L R a r q) → wl_n_X2_lowestRoomFor_5 ro rg db de dp Q (t + 1) (nI j) (nI m) (nI a) := by
    intro t
    induction t with
    | zero =>
      intro a m ha hm hb
      rw [wl_n_X2_lowestRoomFor_5, z_le (by omega) (by omega)]
      exact ⟨fun _ => ⟨R r + 1, low m hm (by rw [show j = a by omega]; exact hb)⟩, fun hx => absurd (by omega) hx⟩
    | succ t ih =>
      intro a m ha hm hb
      obtain ⟨k, hk⟩ := hL.at (j := a) (by omega)
      have hkn := hL.lt hk
      have hRk := gvn_le hg a k (by omega) hk
      rw [wl_n_X2_lowestRoomFor_5, z_le (by omega) (by omega), z_cl (n := a) (by omega), z_cl (n := j) (by omega), hO a k hk, hO j r hr, z_cl (n := k) (by omega), hR k ⟨a, by omega, hk⟩, nI_1]
      refine ⟨fun hx => absurd hx (by omega), fun _ => ⟨z_in (by omega) (by decide), z_in (by omega) (by decide), s_clash hD hrn hkn ?_⟩⟩
      have hfl : ∀ q, flR d L R (a + 1) r q ↔ flR d L R a r q ∨ (cl (vP d) (vB d) (vE d) r k = true ∧ R k = q) := by
        intro q
        constructor
        · rintro ⟨k2, h1, h2, h3⟩
          rcases (preL_succ hk k2).mp h1 with h4 | rfl
          · exact Or.inl ⟨k2, h4, h2, h3⟩
          · exact Or.inr ⟨h2, h3⟩
        · rintro (⟨k2, h1, h2, h3⟩ | ⟨h2, h3⟩)
          · exact ⟨k2, (preL_succ hk k2).mpr (Or.inl h1), h2, h3⟩
          · exact ⟨k, (preL_succ hk k).mpr (Or.inr rfl), h2, h3⟩
      cases hc : cl (vP d) (vB d) (vE d) r k
      · refine ⟨fun _ => ih (a + 1) m (by omega) hm (fun q => ?_), fun hx => absurd rfl hx⟩
        rw [hb, hfl, hc]
        exact ⟨Or.inl, fun hx => hx.resolve_right (fun h9 => (by cases h9.1))⟩
      · refine ⟨fun hx => absurd hx (by decide), fun _ => ⟨z_in (by omega) (by decide), z_in (by omega) (by decide), s_bit (by omega) ?_⟩⟩
        rw [z_or]
        refine ih (a + 1) (m ||| 2 ^ R k) (by omega) (or_lt14 hm (by omega)) (fun q => ?_)
        rw [or_bit, hb, hfl, hc]
        exact ⟨fun hx => hx.imp id (fun h9 => ⟨rfl, h9⟩), fun hx => hx.imp id (fun h9 => h9.2)⟩
  exact ⟨j + 1, key j 0 0 (by omega) (by decide) (fun q => by
    rw [Nat.zero_testBit]
    exact ⟨fun hx => (by cases hx), fun ⟨k, ⟨i, hi, _⟩, _⟩ => absurd hi (by omega)⟩)⟩
theorem s_giveAll (ok : DOK d) (hd : DC d db de df dc dp dk) {L : List Nat} {R : Nat → Nat} (hL : ordB d L) (hg : gvn d L R (vn d)) {ro rg : Nat → Int32} {Q : (Nat → Int32) → (Nat → Int32) → Prop} (h : ∀ ro' rg' : Nat → Int32, (∀ k, k < vn d → rg' k = nI (R k)) → Q ro' rg') : wn_X2_giveAll ro rg db de dc dp Q := by
  have hn := ok.1
  have hd0 := hd
  obtain ⟨rfl, rfl, rfl, h4⟩ := hd
  unfold wn_X2_giveAll
  refine s_orderBy hn (B := vB d) (fun k hk => by have := ok.2.2.1 k hk; omega) (fun k hk => (h4 k hk).1) (fun L1 vv hL1 hs1 hO => ?_)
  have e1 : L1 = L := ord_un (hL1.trans hL.1.symm) hs1 hL.2
  subst e1
  have key : ∀ (m j : Nat) (rg : Nat → Int32), j + m = vn d → (∀ k, preL L1 j k → rg k = nI (R k)) → wl_n_X2_giveAll_17 db de (nI (vn d)) (nI (vP d)) Q (m + 1) vv rg (nI j) := by
    intro m
    induction m with
    | zero =>
      intro j rg hj hR
      rw [wl_n_X2_giveAll_17, z_le (by omega) (by omega)]
      exact ⟨fun _ => h _ _ (fun k hk => hR k (by rw [show j = vn d by omega]; exact (preL_all hL).mpr hk)), fun hx => absurd (by omega) hx⟩
    | succ m ih =>
      intro j rg hj hR
      obtain ⟨r, hr⟩ := hL.at (j := j) (by omega)
      have hrn := hL.lt hr
      rw [wl_n_X2_giveAll_17, z_le (by omega) (by omega), z_cl (n := j) (by omega), hO j r hr, z_cl (n := r) (by omega), nI_1]
      refine ⟨fun hx => absurd hx (by omega), fun _ => ⟨z_in (by omega) (by decide), s_lowest ok hd0 hL hg hO (by omega) hr hR ⟨z_in (by omega) (by decide), ih (j + 1) _ (by omega) (fun k hk => ?_)⟩⟩⟩
      rcases (preL_succ hr k).mp hk with h5 | rfl
      · have hkr : k ≠ r := fun e => by subst e; exact hL.not hr h5
        rw [pk_un hkr]; exact hR k h5
      · exact pk_us
  exact ⟨vn d + 1, key (vn d) 0 rg (by omega) (fun k ⟨i, hi, _⟩ => absurd hi (by omega))⟩
theorem if_nI {x y : Nat} (hx : x < 2 ^ 31) (hy : y < 2 ^ 31) : (if nI x < nI y then nI y else nI x) = nI (if x < y then y else x) := by
  by_cases h : x < y
  · rw [if_pos h, if_pos (by rw [z_lt hx hy]; exact h)]
  · rw [if_neg h, if_neg (by rw [z_lt hx hy]; exact h)]
theorem gvn_14 (ok : DOK d) {L : List Nat} {R : Nat → Nat} (hL : ordB d L) (hg : gvn d L R (vn d)) {k : Nat} (hk : k < vn d) : R k < 14 := by
  have hn := ok.1
  obtain ⟨i, h1, h2⟩ := hL.mem hk
  have := gvn_le hg i k h1 h2
  omega
theorem s_givenRooms (ok : DOK d) (hd : DC d db de df dc dp dk) {L : List Nat} {R : Nat → Nat} (hL : ordB d L) (hg : gvn d L R (vn d)) {ro rg : Nat → Int32} {Q : Int32 → (Nat → Int32) → (Nat → Int32) → Prop} (h : ∀ (x : Nat) (ro' rg' : Nat → Int32), mxO (fun k => k < vn d) R x → Q (nI x) ro' rg') : wn_X2_givenRooms ro rg db de dc dp Q := by
  have hn := ok.1
  unfold wn_X2_givenRooms
  refine s_giveAll ok hd hL hg (fun ro1 rg1 hR => ?_)
  obtain ⟨rfl, rfl, rfl, h4⟩ := hd
  have key : ∀ (m k x : Nat), k + m = vn d → x ≤ 14 → mxO (fun i => i < k) R x → wl_n_X2_givenRooms_9 db de (nI (vn d)) (nI (vP d)) Q (m + 1) ro1 rg1 (nI x) (nI k) := by
    intro m
    induction m with
    | zero =>
      intro k x hk hx hm
      rw [wl_n_X2_givenRooms_9, z_le (by omega) (by omega)]
      exact ⟨fun _ => h x _ _ (by rw [show vn d = k by omega]; exact hm), fun hx => absurd (by omega) hx⟩
    | succ m ih =>
      intro k x hk hx hm
      have hRk := gvn_14 ok hL hg (k := k) (by omega)
      rw [wl_n_X2_givenRooms_9, z_le (by omega) (by omega), z_cl (n := k) (by omega), hR k (by omega), nI_1, nI_1, if_nI (by omega) (by omega)]
      refine ⟨fun hx => absurd hx (by omega), fun _ => ⟨z_in (by omega) (by decide), fun v hv => ?_⟩⟩
      subst hv
      exact ih (k + 1) _ (by omega) (by split <;> omega) (mxO_step hm (fun i => by show i < k + 1 ↔ i < k ∨ i = k; omega))
  exact ⟨vn d + 1, key (vn d) 0 0 (by omega) (by omega) (mxO_congr (mxO_0 R) (fun k => ⟨fun hh => hh.elim, fun hh => absurd hh (by omega)⟩))⟩
end
/-! as many rooms as there are rehearsals going on at once -/
theorem sm_const1 : ∀ n, sm (fun _ => 1) n = n
  | 0 => rfl
  | n + 1 => by unfold sm; rw [sm_const1 n]
theorem sm_ge (f : Nat → Nat) {k : Nat} : ∀ {n : Nat}, k < n → f k ≤ sm f n
  | 0, h => absurd h (by omega)
  | n + 1, h => by
    unfold sm
    by_cases hk : k = n
    · subst hk; omega
    · have := sm_ge f (k := k) (n := n) (by omega)
      omega
theorem sm_at1 (f : Nat → Nat) : ∀ n, (∀ k, k < n → f k ≤ 1) → (∀ i j, i < n → j < n → f i ≠ 0 → f j ≠ 0 → i = j) → sm f n ≤ 1
  | 0, _, _ => by unfold sm; omega
  | n + 1, h1, h2 => by
    unfold sm
    have hn := h1 n (by omega)
    by_cases h0 : f n = 0
    · have := sm_at1 f n (fun k hk => h1 k (by omega)) (fun i j hi hj => h2 i j (by omega) (by omega))
      omega
    · have hz : sm f n = sm (fun _ => 0) n := sm_congr (fun k hk => by
        by_cases hk0 : f k = 0
        · exact hk0
        · have := h2 k n (by omega) (by omega) hk0 h0
          omega)
      rw [hz, sm_zero]
      omega
def swm (n P : Nat) (B E : Nat → Nat) : Nat → Nat
  | 0 => 0
  | q + 1 => if swm n P B E q < gnh n P B E (q + 1) then gnh n P B E (q + 1) else swm n P B E q
theorem swm_ge (n P : Nat) (B E : Nat → Nat) {q : Nat} : ∀ {m : Nat}, q < m → gnh n P B E (q + 1) ≤ swm n P B E m
  | 0, h => absurd h (by omega)
  | m + 1, h => by
    unfold swm
    by_cases hk : q = m
    · subst hk; split <;> omega
    · have := swm_ge n P B E (q := q) (m := m) (by omega)
      split <;> omega
theorem swm_le (n P : Nat) (B E : Nat → Nat) {x : Nat} (h : ∀ q, gnh n P B E (q + 1) ≤ x) : ∀ m, swm n P B E m ≤ x
  | 0 => Nat.zero_le x
  | m + 1 => by
    unfold swm
    have h1 := h m
    have h2 := swm_le n P B E h m
    split <;> omega
theorem gnh_le (n P : Nat) (B E : Nat → Nat) (q : Nat) : gnh n P B E q ≤ n := by
  have h : gnh n P B E q ≤ sm (fun _ => 1) n := sm_le (fun k _ => by show (if _ then 1 else 0) ≤ 1; split <;> omega)
  rwa [sm_const1] at h
theorem rooms_eq {d : DV} (ok : DOK d) {L : List Nat} {R : Nat → Nat} (hL : ordB d L) (hg : gvn d L R (vn d)) {x : Nat} (hx : mxO (fun k => k < vn d) R x) : swm (vn d) (vP d) (vB d) (vE d) 96 = x := by
  have hup : ∀ q, gnh (vn d) (vP d) (vB d) (vE d) (q + 1) ≤ x := by
    intro q
    obtain ⟨f, hf⟩ : ∃ f : Nat → Nat, f = fun k => if vB d k < q + 1 ∧ q + 1 ≤ vE d k + vP d then 1 else 0 := ⟨_, rfl⟩
    have e1 : gnh (vn d) (vP d) (vB d) (vE d) (q + 1) = sm f (vn d) := by rw [hf]; rfl
    have e2 : sm f (vn d) = sm (fun k => sm (fun c => if R k = c then f k else 0) x) (vn d) := by
      refine sm_congr (fun k hk => ?_)
      rw [sm_one (fun _ => f k) (R k) x, if_pos (by have := hx.1 k hk; omega)]
    rw [e1, e2, sm_swap (fun k c => if R k = c then f k else 0)]
    have e3 : sm (fun c => sm (fun k => if R k = c then f k else 0) (vn d)) x ≤ sm (fun _ => 1) x := by
      refine sm_le (fun c _ => sm_at1 _ _ (fun k hk => ?_) (fun i j hi hj h1 h2 => ?_))
      · show (if R k = c then f k else 0) ≤ 1
        rw [hf]
        show (if R k = c then (if _ then 1 else 0) else 0) ≤ 1
        split
        · split <;> omega
        · omega
      · have g : ∀ k, (if R k = c then f k else 0) ≠ 0 → R k = c ∧ vB d k < q + 1 ∧ q + 1 ≤ vE d k + vP d := by
          intro k hk
          by_cases h3 : R k = c
          · rw [if_pos h3, hf] at hk
            by_cases h4 : vB d k < q + 1 ∧ q + 1 ≤ vE d k + vP d
            · exact ⟨h3, h4⟩
            · exact absurd (if_neg h4) hk
          · rw [if_neg h3] at hk; exact absurd rfl hk
        obtain ⟨i1, i2, i3⟩ := g i h1
        obtain ⟨j1, j2, j3⟩ := g j h2
        obtain ⟨a, a1, a2⟩ := hL.mem hi
        obtain ⟨b, b1, b2⟩ := hL.mem hj
        by_cases hij : i = j
        · exact hij
        · exfalso
          have c1 : cl (vP d) (vB d) (vE d) i j = true := by
            unfold cl
            rw [decide_eq_true hij, decide_eq_true (by omega : vB d j < vE d i + vP d), decide_eq_true (by omega : vB d i < vE d j + vP d)]
            rfl
          rcases Nat.lt_trichotomy a b with h5 | h5 | h5
          · exact (hg b j b1 b2).1 ⟨i, ⟨a, h5, a2⟩, by rw [cl_symm]; exact c1, by omega⟩
          · subst h5; rw [a2] at b2; cases b2; exact hij rfl
          · exact (hg a i a1 a2).1 ⟨j, ⟨b, h5, b2⟩, c1, by omega⟩
    rwa [sm_const1] at e3
  have h1 := swm_le (vn d) (vP d) (vB d) (vE d) hup 96
  rcases hx.2 with h0 | ⟨r, hr, e⟩
  · omega
  · obtain ⟨i, i1, i2⟩ := hL.mem hr
    obtain ⟨o1, o2, -⟩ := ok.2.2.1 r hr
    have hgi := hg i r i1 i2
    have hge := swm_ge (vn d) (vP d) (vB d) (vE d) (q := vB d r) (m := 96) (by omega)
    obtain ⟨f, hf⟩ : ∃ f : Nat → Nat, f = fun k => if vB d k < vB d r + 1 ∧ vB d r + 1 ≤ vE d k + vP d then 1 else 0 := ⟨_, rfl⟩
    have e1 : gnh (vn d) (vP d) (vB d) (vE d) (vB d r + 1) = sm f (vn d) := by rw [hf]; rfl
    have has : ∀ c, c < R r + 1 → ∃ k, k < vn d ∧ f k = 1 ∧ R k = c := by
      intro c hc
      by_cases hcr : c = R r
      · refine ⟨r, hr, ?_, hcr.symm⟩
        rw [hf]
        exact if_pos (by omega)
      · obtain ⟨k, k1, k2, k3⟩ := hgi.2 c (by omega)
        have hkn := hL.nlt k1
        obtain ⟨i3, i4, i5⟩ := k1
        have h5 := hL.rk i4 i5 i2
        refine ⟨k, hkn, ?_, k3⟩
        unfold cl at k2
        simp only [Bool.and_eq_true, decide_eq_true_eq] at k2
        rw [hf]
        exact if_pos (by omega)
    have e2 : sm (fun _ => 1) (R r + 1) ≤ sm (fun c => sm (fun k => if R k = c then f k else 0) (vn d)) (R r + 1) := by
      refine sm_le (fun c hc => ?_)
      obtain ⟨k, k1, k2, k3⟩ := has c hc
      have h6 := sm_ge (fun k => if R k = c then f k else 0) k1
      have h7 : (if R k = c then f k else 0) = 1 := by rw [if_pos k3, k2]
      have h8 : (1:Nat) ≤ sm (fun k => if R k = c then f k else 0) (vn d) := by
        refine Nat.le_trans ?_ h6
        show 1 ≤ (if R k = c then f k else 0)
        omega
      exact h8
    rw [sm_const1, sm_swap (fun c k => if R k = c then f k else 0)] at e2
    have e3 : sm (fun k => sm (fun c => if R k = c then f k else 0) (R r + 1)) (vn d) ≤ sm f (vn d) := by
      refine sm_le (fun k _ => ?_)
      rw [sm_one (fun _ => f k) (R k) (R r + 1)]
      split <;> omega
    omega
theorem s_sweptRooms {n P : Nat} {B E F : Nat → Nat} {db de df : Nat → Int32} {dc dp : Int32} (hD : DR n P B E F db de df dc dp) {Q : Int32 → Prop} (h : Q (nI (swm n P B E 96))) : wn_X2_sweptRooms db de dc dp Q := by
  have hn := hD.2.1
  have hE : ∀ k, k < n → B k < E k := fun k hk => (hD.2.2.2.2 k hk).2.2.2.1
  have hsl : ∀ q, swm n P B E q ≤ n := swm_le n P B E (fun q => gnh_le n P B E (q + 1))
  have key : ∀ m q : Nat, q + m = 96 → wl_n_X2_sweptRooms_7 db de dc dp Q (m + 1) (nI (swm n P B E q)) (nI (gnh n P B E q)) (nI q) := by
    intro m
    induction m with
    | zero =>
      intro q hq
      rw [wl_n_X2_sweptRooms_7, z_96', z_le (by omega) (by omega)]
      refine ⟨fun _ => ?_, fun hc => absurd (by omega) hc⟩
      rw [show q = 96 by omega]
      exact h
    | succ m ih =>
      intro q hq
      rw [wl_n_X2_sweptRooms_7, z_96', z_le (by omega) (by omega)]
      refine ⟨fun hc => absurd hc (by omega), fun _ => s_begin hD (by omega) (s_over hD (by omega) ?_)⟩
      have ih := ih (q + 1) (by omega)
      have hg := gnh_over (P := P) hE q
      have hx := gnh_next (P := P) hE q
      have h1 := gnh_le n P B E q
      have h2 := gnh_le n P B E (q + 1)
      have h3 := hsl q
      have e1 : nI (gnh n P B E q) + (nI (bgn n B q) - nI (sm (fun k => if E k + P = q then 1 else 0) n)) = nI (gnh n P B E (q + 1)) := by
        rw [Int32.sub_eq_add_neg, ← Int32.add_assoc, nI_add, ← Int32.sub_eq_add_neg, z_sub (by omega)]
        congr 1
        omega
      rw [e1, if_nI (by omega) (by omega), nI_1]
      exact ih
  have k0 := key 96 0 rfl
  rw [gnh_0] at k0
  exact ⟨97, k0⟩
