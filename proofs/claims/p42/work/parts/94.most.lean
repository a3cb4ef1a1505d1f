/-! the most rehearsals of a choice: what ends first, again and again -/
theorem pcn_su (S : Nat) : ∀ n, pcn S n = su S (fun _ => 1) n
  | 0 => rfl
  | n + 1 => by
    unfold pcn su
    rw [pcn_su S n, bit_shr]
    cases S.testBit n <;> simp
theorem pcn_hi {S n : Nat} (hS : S < 2 ^ n) : ∀ m, pcn S (n + m) = pcn S n
  | 0 => rfl
  | m + 1 => by
    show pcn S (n + m) + S / 2 ^ (n + m) % 2 = _
    rw [pcn_hi hS m, bit_shr, Nat.testBit_lt_two_pow (Nat.lt_of_lt_of_le hS (Nat.pow_le_pow_right (by decide) (by omega)))]
    rfl
theorem pcn_14 {S n : Nat} (hn : n ≤ 14) (hS : S < 2 ^ n) : pcn S 14 = su S (fun _ => 1) n := by
  have h := pcn_hi hS (14 - n)
  rw [show n + (14 - n) = 14 by omega] at h
  rw [h, pcn_su]
theorem su1_le (S : Nat) : ∀ n, su S (fun _ => 1) n ≤ n
  | 0 => Nat.le_refl 0
  | n + 1 => by
    have h := su1_le S n
    unfold su
    split <;> omega
theorem mostOf_un {d : DV} {M x y : Nat} (hx : mostOf d M x) (hy : mostOf d M y) : x = y := by
  have h1 : x ≤ y := by
    rcases hx.2 with h | ⟨S, h1, h2, h3⟩
    · omega
    · have := hy.1 S h1 h2; omega
  have h2 : y ≤ x := by
    rcases hy.2 with h | ⟨S, h1, h2, h3⟩
    · omega
    · have := hx.1 S h1 h2; omega
  omega
/-- x is the most of a choice out of M, and free the quarter from which a next one can begin -/
def greO (d : DV) (M : Nat → Prop) (x free : Nat) : Prop :=
  (∃ G, G < 2 ^ vn d ∧ chB d G = true ∧ (∀ k, G.testBit k = true → M k ∧ vE d k + vP d ≤ free) ∧ su G (fun _ => 1) (vn d) = x) ∧
  (∀ S, S < 2 ^ vn d → chB d S = true → (∀ k, S.testBit k = true → M k) → su S (fun _ => 1) (vn d) ≤ x ∧ (su S (fun _ => 1) (vn d) = x → free = 0 ∨ ∃ k, S.testBit k = true ∧ free ≤ vE d k + vP d)) ∧
  (free = 0 ∨ ∃ k, k < vn d ∧ M k ∧ free = vE d k + vP d)
theorem greO_0 (d : DV) : greO d (fun _ => False) 0 0 := by
  have hz : ∀ n, su 0 (fun _ => 1) n = 0 := by
    intro n
    induction n with
    | zero => rfl
    | succ n ih => unfold su; rw [Nat.zero_testBit, ih]; rfl
  refine ⟨⟨0, Nat.two_pow_pos _, chB_0 d, (fun k hk => by rw [Nat.zero_testBit] at hk; cases hk), hz _⟩, fun S hS _ hM => ?_, Or.inl rfl⟩
  have h0 : S = 0 := by
    apply Nat.eq_of_testBit_eq
    intro j
    rw [Nat.zero_testBit]
    cases hj : S.testBit j
    · rfl
    · exact (hM j hj).elim
  rw [h0, hz]
  exact ⟨Nat.le_refl 0, fun _ => Or.inl rfl⟩
theorem greO_congr {d : DV} {M N : Nat → Prop} {x f : Nat} (h : ∀ k, k < vn d → (M k ↔ N k)) (hx : greO d M x f) : greO d N x f := by
  obtain ⟨⟨S, s1, s2, s3, s4⟩, hm, hf⟩ := hx
  refine ⟨⟨S, s1, s2, fun k hk => ⟨(h k (bit_lt s1 hk)).mp (s3 k hk).1, (s3 k hk).2⟩, s4⟩, fun T t1 t2 t3 => hm T t1 t2 (fun k hk => (h k (bit_lt t1 hk)).mpr (t3 k hk)), ?_⟩
  rcases hf with h0 | ⟨k, h1, h2, h3⟩
  · exact Or.inl h0
  · exact Or.inr ⟨k, h1, (h k h1).mp h2, h3⟩
theorem greO_yes {d : DV} (ok : DOK d) {M N : Nat → Prop} {r x f : Nat} (hr : r < vn d) (hN : ∀ k, k < vn d → (N k ↔ M k ∨ k = r)) (hrM : ¬ M r) (hE : ∀ k, k < vn d → M k → vE d k ≤ vE d r) (hf : f ≤ vB d r) (h : greO d M x f) : greO d N (x + 1) (vE d r + vP d) := by
  have hn := ok.1
  have hM14 : (2:Nat) ^ vn d ≤ 2 ^ 14 := Nat.pow_le_pow_right (by decide) hn
  obtain ⟨⟨G, g1, g2, g3, g4⟩, hm, -⟩ := h
  have hp : (2:Nat) ^ r < 2 ^ vn d := Nat.pow_lt_pow_right (by decide) hr
  have hGr : G.testBit r = false := by
    cases hb : G.testBit r
    · rfl
    · exact absurd (g3 r hb).1 hrM
  refine ⟨⟨G ||| 2 ^ r, Nat.or_lt_two_pow g1 hp, ?_, fun k hk => ?_, ?_⟩, fun S hS hc hN2 => ?_, Or.inr ⟨r, hr, (hN r hr).mpr (Or.inr rfl), rfl⟩⟩
  · rw [chB_put hr, g2, Bool.true_and, decide_eq_true_eq, mk_and]
    intro j hj hcj
    cases hb : G.testBit j
    · rfl
    · have h1 := (g3 j hb).2
      unfold cl at hcj
      rw [decide_eq_false (by omega : ¬ vB d r < vE d j + vP d), Bool.and_false, Bool.and_false] at hcj
      cases hcj
  · rw [Nat.testBit_or, Nat.testBit_two_pow] at hk
    by_cases hkr : r = k
    · subst hkr; exact ⟨(hN _ hr).mpr (Or.inr rfl), Nat.le_refl _⟩
    · have hk2 : G.testBit k = true := by simpa [hkr] using hk
      have hkn := bit_lt g1 hk2
      have := hE k hkn (g3 k hk2).1
      exact ⟨(hN k hkn).mpr (Or.inl (g3 k hk2).1), by omega⟩
  · rw [su_put (fun _ => 1) hGr (vn d) hr, g4]
  · cases hb : S.testBit r
    · have h1 := (hm S hS hc (fun k hk => ((hN k (bit_lt hS hk)).mp (hN2 k hk)).resolve_right (fun e => by subst e; rw [hb] at hk; cases hk))).1
      exact ⟨by omega, fun e => by omega⟩
    · have hS31 : S < 2 ^ 31 := by omega
      have hcb := clr_bit (K := S) (r := r) (by omega) hS31
      have hput := clr_put (by omega) hS31 hb
      have hch := (chB_iff d S).mp hc
      have h1 := (hm (clr S r) (Nat.lt_of_le_of_lt (clr_le S r) hS) ((chB_iff d _).mpr (chO_sub hch (fun j hj => by rw [hcb] at hj; simp at hj; exact hj.1))) (fun k hk => by
        rw [hcb] at hk
        simp at hk
        exact ((hN k (bit_lt hS hk.1)).mp (hN2 k hk.1)).resolve_right hk.2)).1
      have hr0 : (clr S r).testBit r = false := by rw [hcb]; simp
      have h2 := su_put (fun _ => 1) hr0 (vn d) hr
      rw [hput] at h2
      exact ⟨by omega, fun _ => Or.inr ⟨r, hb, Nat.le_refl _⟩⟩
theorem greO_no {d : DV} (ok : DOK d) {M N : Nat → Prop} {r x f : Nat} (hr : r < vn d) (hN : ∀ k, k < vn d → (N k ↔ M k ∨ k = r)) (hrM : ¬ M r) (hE : ∀ k, k < vn d → M k → vE d k ≤ vE d r) (hf : vB d r < f) (h : greO d M x f) : greO d N x f := by
  have hn := ok.1
  have hM14 : (2:Nat) ^ vn d ≤ 2 ^ 14 := Nat.pow_le_pow_right (by decide) hn
  obtain ⟨⟨G, g1, g2, g3, g4⟩, hm, hfr⟩ := h
  have hfE : f ≤ vE d r + vP d := by
    rcases hfr with h0 | ⟨k, h1, h2, h3⟩
    · omega
    · have := hE k h1 h2; omega
  refine ⟨⟨G, g1, g2, fun k hk => ⟨(hN k (bit_lt g1 hk)).mpr (Or.inl (g3 k hk).1), (g3 k hk).2⟩, g4⟩, fun S hS hc hN2 => ?_, ?_⟩
  · cases hb : S.testBit r
    · exact hm S hS hc (fun k hk => ((hN k (bit_lt hS hk)).mp (hN2 k hk)).resolve_right (fun e => by subst e; rw [hb] at hk; cases hk))
    · have hS31 : S < 2 ^ 31 := by omega
      have hcb := clr_bit (K := S) (r := r) (by omega) hS31
      have hput := clr_put (by omega) hS31 hb
      have hch := (chB_iff d S).mp hc
      have hsub : ∀ k, (clr S r).testBit k = true → k < vn d ∧ k ≠ r ∧ S.testBit k = true ∧ M k := fun k hk => by
        rw [hcb] at hk
        simp at hk
        exact ⟨bit_lt hS hk.1, hk.2, hk.1, ((hN k (bit_lt hS hk.1)).mp (hN2 k hk.1)).resolve_right hk.2⟩
      have h1 := hm (clr S r) (Nat.lt_of_le_of_lt (clr_le S r) hS) ((chB_iff d _).mpr (chO_sub hch (fun j hj => (hsub j hj).2.2.1))) (fun k hk => (hsub k hk).2.2.2)
      have hr0 : (clr S r).testBit r = false := by rw [hcb]; simp
      have h2 := su_put (fun _ => 1) hr0 (vn d) hr
      rw [hput] at h2
      have h3 : ¬ su (clr S r) (fun _ => 1) (vn d) = x := by
        intro e
        rcases h1.2 e with h0 | ⟨k, hk, hk2⟩
        · omega
        · obtain ⟨k1, k2, k3, k4⟩ := hsub k hk
          have h4 := hch r k hr k1 hb k3
          have h5 := hE k k1 k4
          have h6 := (ok.2.2.1 k k1).1
          unfold cl at h4
          rw [decide_eq_true (Ne.symm k2), decide_eq_true (by omega : vB d k < vE d r + vP d), decide_eq_true (by omega : vB d r < vE d k + vP d)] at h4
          cases h4
      exact ⟨by omega, fun e => Or.inr ⟨r, hb, hfE⟩⟩
  · rcases hfr with h0 | ⟨k, h1, h2, h3⟩
    · exact Or.inl h0
    · exact Or.inr ⟨k, h1, (hN k h1).mpr (Or.inl h2), h3⟩
theorem greO_most {d : DV} (ok : DOK d) {x f : Nat} (h : greO d (fun _ => True) x f) : mostOf d (2 ^ vn d) x := by
  obtain ⟨⟨G, g1, g2, -, g4⟩, hm, -⟩ := h
  refine ⟨fun S hS hc => ?_, Or.inr ⟨G, g1, g2, ?_⟩⟩
  · rw [pcn_14 ok.1 hS]; exact (hm S hS hc (fun _ _ => trivial)).1
  · rw [pcn_14 ok.1 g1]; exact g4
theorem s_mostInOne {d : DV} (ok : DOK d) {db de df ho : Nat → Int32} {dc dp dk : Int32} (hd : DC d db de df dc dp dk) {Q : Int32 → (Nat → Int32) → Prop} (h : ∀ (x : Nat) (ho' : Nat → Int32), mostOf d (2 ^ vn d) x → Q (nI x) ho') : wn_X0_mostInOne ho db de dc dp Q := by
  have hn := ok.1
  have hP := ok.2.1
  obtain ⟨rfl, rfl, rfl, h4⟩ := hd
  unfold wn_X0_mostInOne
  refine s_orderBy hn (B := vE d) (fun k hk => by have := (ok.2.2.1 k hk).2.1; omega) (fun k hk => (h4 k hk).2.1) (fun L vv hL hs hO => ?_)
  have hlen : L.length = vn d := by rw [hL.length_eq, List.length_range]
  have hmem : ∀ i k, L[i]? = some k → k < vn d := fun i k hk => by
    have h5 : k ∈ List.range (vn d) := hL.mem_iff.mp (List.mem_of_getElem? hk)
    rwa [List.mem_range] at h5
  have hrk : ∀ i j a b, i < j → L[i]? = some a → L[j]? = some b → rk (vE d) a b := fun i j a b hij ha hb => by
    obtain ⟨hi, ea⟩ := List.getElem?_eq_some_iff.mp ha
    obtain ⟨hj, eb⟩ := List.getElem?_eq_some_iff.mp hb
    have := List.pairwise_iff_getElem.mp hs i j hi hj hij
    rwa [ea, eb] at this
  have key : ∀ (m j x f : Nat), j + m = vn d → greO d (preL L j) x f → f ≤ 200 → wl_n_X0_mostInOne_22 db de (nI (vn d)) (nI (vP d)) Q (m + 1) vv (nI x) (nI f) (nI j) := by
    intro m
    induction m with
    | zero =>
      intro j x f hj hg hf
      rw [wl_n_X0_mostInOne_22, z_le (by omega) (by omega)]
      refine ⟨fun _ => h x _ (greO_most ok (greO_congr (fun k hk => ⟨fun _ => trivial, fun _ => ?_⟩) hg)), fun hc => absurd (by omega) hc⟩
      have h6 : k ∈ L := hL.mem_iff.mpr (List.mem_range.mpr hk)
      obtain ⟨i, hi⟩ := List.mem_iff_getElem?.mp h6
      exact ⟨i, by have := (List.getElem?_eq_some_iff.mp hi).1; omega, hi⟩
    | succ m ih =>
      intro j x f hj hg hf
      obtain ⟨r, hr⟩ : ∃ r, L[j]? = some r := ⟨L[j]'(by omega), List.getElem?_eq_getElem (by omega)⟩
      have hrn := hmem j r hr
      obtain ⟨g1, g2, g3, g4⟩ := ok.2.2.1 r hrn
      have hpre : ∀ k, preL L (j + 1) k ↔ preL L j k ∨ k = r := by
        intro k
        constructor
        · rintro ⟨i, hi, hk⟩
          by_cases hij : i = j
          · subst hij; rw [hr] at hk; cases hk; exact Or.inr rfl
          · exact Or.inl ⟨i, by omega, hk⟩
        · rintro (⟨i, hi, hk⟩ | rfl)
          · exact ⟨i, by omega, hk⟩
          · exact ⟨j, by omega, hr⟩
      have hrM : ¬ preL L j r := by
        rintro ⟨i, hi, hk⟩
        have := hrk i j r r hi hk hr
        unfold rk at this; omega
      have hE : ∀ k, k < vn d → preL L j k → vE d k ≤ vE d r := by
        rintro k - ⟨i, hi, hk⟩
        have := hrk i j k r hi hk hr
        unfold rk at this; omega
      rw [wl_n_X0_mostInOne_22, z_le (by omega) (by omega), z_cl (n := j) (by omega), hO j r hr, z_cl (n := r) (by omega), (h4 r hrn).1, (h4 r hrn).2.1, z_lt (by omega) (by omega), nI_add, nI_1, nI_1]
      refine ⟨fun hc => absurd hc (by omega), fun _ => ⟨z_in (by omega) (by decide), z_in (by omega) (by decide), fun hlt => ?_, fun hlt => ⟨z_in (by omega) (by decide), ?_⟩⟩⟩
      · exact ih (j + 1) x f (by omega) (greO_no ok hrn (fun k _ => hpre k) hrM hE hlt hg) hf
      · exact ih (j + 1) (x + 1) _ (by omega) (greO_yes ok hrn (fun k _ => hpre k) hrM hE (by omega) hg) (by omega)
  exact ⟨vn d + 1, key (vn d) 0 0 0 (by omega) (greO_congr (fun k _ => ⟨fun hh => hh.elim, fun hh => by obtain ⟨i, hi, -⟩ := hh; omega⟩) (greO_0 d)) (by omega)⟩
