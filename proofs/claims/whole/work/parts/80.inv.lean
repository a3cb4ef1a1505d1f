/-! the invariant of law's loop -/
def INV (db : Nat → Int32) (de : Nat → Int32) (df : Nat → Int32) (dc : Int32) (dp : Int32) (dk : Int32) (so : Int32) (sn : Int32) (sb : Nat → Nat → Int32) (se : Nat → Nat → Int32) (sf : Nat → Nat → Int32) (sc : Nat → Int32) (sp : Nat → Int32) (sk : Nat → Int32) (nb : Nat → Nat → Int32) (ne : Nat → Nat → Int32) (nf : Nat → Nat → Int32) (nc : Nat → Int32) (np : Nat → Int32) (nk : Nat → Int32) (tk : Nat → Int32) (tc : Nat → Int32) (tl : Int32) (tn : Nat → Int32) (tf : Int32) (tv : Int32) (ro : Nat → Int32) (rg : Nat → Int32) (ho : Nat → Int32) (hc : Nat → Int32) (ht : Nat → Int32) (yn : Nat → Int32) (yt : Nat → Int32) (yu : Nat → Int32) (yf : Nat → Int32) (yr : Nat → Int32) (yb : Nat → Int32) (yk : Nat → Int32) (yi : Nat → Int32) (yx : Nat → Int32) (za : Int32) (zs : Int32) (zl : Int32) (zt : Int32) (zg : Int32) (zr : Int32) (zm : Int32) (pp : Nat → Int64) (pw : Nat → UInt64) : Prop := ∃ (d : DV) (S : List DV) (N : Nat → Option DV) (n : Nat) (t : Nat → Nat), (DOK d ∧ (∀ e ∈ S, DOK e) ∧ (∀ i, i < 2 → ∀ e, N i = some e → DOK e) ∧ TOK n t) ∧ (DC d db de df dc dp dk ∧ SC S so sn sb se sf sc sp sk ∧ NC N nb ne nf nc np nk tk ∧ TC n t tc tl) ∧ (DM d yn ∧ MS S yb zs ∧ NM N yk yi ∧ TC n t yx zl)
theorem INV.mk {db : Nat → Int32} {de : Nat → Int32} {df : Nat → Int32} {dc : Int32} {dp : Int32} {dk : Int32} {so : Int32} {sn : Int32} {sb : Nat → Nat → Int32} {se : Nat → Nat → Int32} {sf : Nat → Nat → Int32} {sc : Nat → Int32} {sp : Nat → Int32} {sk : Nat → Int32} {nb : Nat → Nat → Int32} {ne : Nat → Nat → Int32} {nf : Nat → Nat → Int32} {nc : Nat → Int32} {np : Nat → Int32} {nk : Nat → Int32} {tk : Nat → Int32} {tc : Nat → Int32} {tl : Int32} {tn : Nat → Int32} {tf : Int32} {tv : Int32} {ro : Nat → Int32} {rg : Nat → Int32} {ho : Nat → Int32} {hc : Nat → Int32} {ht : Nat → Int32} {yn : Nat → Int32} {yt : Nat → Int32} {yu : Nat → Int32} {yf : Nat → Int32} {yr : Nat → Int32} {yb : Nat → Int32} {yk : Nat → Int32} {yi : Nat → Int32} {yx : Nat → Int32} {za : Int32} {zs : Int32} {zl : Int32} {zt : Int32} {zg : Int32} {zr : Int32} {zm : Int32} {pp : Nat → Int64} {pw : Nat → UInt64} {d : DV} {S : List DV} {N : Nat → Option DV} {n : Nat} {t : Nat → Nat} (o1 : DOK d) (o2 : ∀ e ∈ S, DOK e) (o3 : ∀ i, i < 2 → ∀ e, N i = some e → DOK e) (o4 : TOK n t) (c1 : DC d db de df dc dp dk) (c2 : SC S so sn sb se sf sc sp sk) (c3 : NC N nb ne nf nc np nk tk) (c4 : TC n t tc tl) (m1 : DM d yn) (m2 : MS S yb zs) (m3 : NM N yk yi) (m4 : TC n t yx zl) : INV db de df dc dp dk so sn sb se sf sc sp sk nb ne nf nc np nk tk tc tl tn tf tv ro rg ho hc ht yn yt yu yf yr yb yk yi yx za zs zl zt zg zr zm pp pw :=
  ⟨d, S, N, n, t, ⟨o1, o2, o3, o4⟩, ⟨c1, c2, c3, c4⟩, ⟨m1, m2, m3, m4⟩⟩
theorem psh_ok {S : List DV} {d : DV} (h : ∀ e ∈ S, DOK e) (hd : DOK d) : ∀ e ∈ psh S d, DOK e := by
  intro e he
  unfold psh at he
  rcases List.mem_append.mp he with h1 | h1
  · by_cases h6 : S.length = 6
    · rw [if_pos h6] at h1; exact h e (List.mem_of_mem_tail h1)
    · rw [if_neg h6] at h1; exact h e h1
  · rw [List.mem_singleton.mp h1]; exact hd
theorem upO_ok {N : Nat → Option DV} {i : Nat} {d : DV} (h : ∀ i, i < 2 → ∀ e, N i = some e → DOK e) (hd : DOK d) : ∀ j, j < 2 → ∀ e, upO N i d j = some e → DOK e := by
  intro j hj e he
  unfold upO at he
  by_cases hji : j = i
  · rw [if_pos hji] at he; cases he; exact hd
  · rw [if_neg hji] at he; exact h j hj e he
theorem TOK.put {n : Nat} {t : Nat → Nat} (h : TOK n t) (hn : n < 60) {c : Nat} (h1 : 33 ≤ c) (h2 : c ≤ 126) : TOK (n + 1) (upN t n c) := by
  refine ⟨by omega, fun k hk => ?_⟩
  by_cases hkn : k = n
  · subst hkn; rw [upN_s]; exact ⟨h1, h2⟩
  · rw [upN_n hkn]; exact h.2 k (by omega)
theorem nI_inj {a b : Nat} (ha : a < 2 ^ 31) (hb : b < 2 ^ 31) (h : nI a = nI b) : a = b := (nI_eq ha hb).mp h
theorem hv0 : vp_in (0 : Int32) 1 := z_in (n := 0) (by decide) (by decide)
theorem lw_val {pp : Nat → Int64} {v : Int32} {K : Prop} (h : K) : (((0 : Int32) = 0 → ((¬ (0 : Int32) = 0 → K) ∧ ((0 : Int32) = 0 → (vp_in (0 : Int32) 1 ∧ (((lg_cmp ((vp_updL pp (0 : Int32).toNatClampNeg v.toInt64) (0 : Int32).toNatClampNeg) v.toInt64) = 0 → K) ∧ (¬ (lg_cmp ((vp_updL pp (0 : Int32).toNatClampNeg v.toInt64) (0 : Int32).toNatClampNeg) v.toInt64) = 0 → False)))))) ∧ (¬ (0 : Int32) = 0 → False)) :=
  ⟨fun _ => ⟨fun hx => absurd rfl hx, fun _ => ⟨hv0, fun _ => h, fun hx => hx (by rw [pk_uLs]; exact (lg_cmp_eq _ _).mpr rfl)⟩⟩, fun hx => hx rfl⟩
theorem lw_thr {w : Int32} (hw : ¬ w = 0) {K Z : Prop} (h : K) : ((w = w → ((¬ w = 0 → K) ∧ (w = 0 → Z))) ∧ (¬ w = w → False)) :=
  ⟨fun _ => ⟨fun _ => h, fun hx => absurd hx hw⟩, fun hx => hx rfl⟩
theorem lw_eq {w : Int32} {K : Prop} (h : K) : ((w = w → K) ∧ (¬ w = w → False)) := ⟨fun _ => h, fun hx => hx rfl⟩
