/-! p42: what would be is so when it is done -/
theorem i64_add {a b : Nat} (ha : a < 2 ^ 30) (hb : b < 2 ^ 30) : (nI a).toInt64 + (nI b).toInt64 = (nI (a + b)).toInt64 := by
  apply Int64.toInt_inj.mp
  rw [Int64.toInt_add, i64_toInt (by omega), i64_toInt (by omega), i64_toInt (by omega), Int.bmod_def]
  omega
theorem lgLe {a b : Nat} (ha : a < 2 ^ 31) (hb : b < 2 ^ 31) : (lg_cmp (nI a).toInt64 (nI b).toInt64 ≤ 0) = (a ≤ b) := by
  rw [propext (lg_cmp_le _ _), Int64.le_iff_toInt_le, i64_toInt ha, i64_toInt hb]
  exact propext (by omega)
/-- the state within 'follows': a day, saved states, the slots with the first day at the second -/
def stF (d : DV) (S : List DV) (st : ST) : ST := (d, S, upO st.2.2.1 1 st.1, st.2.2.2)
/-- w ends with 1, the day as it was -/
def FIN (st s : ST) (w : OB → (Int32 → OB → Prop) → Prop) : Prop := ∃ T : List DV, T.length ≤ 6 ∧ (∀ e ∈ T, DOK e) ∧ runB s w 1 (stF st.1 T st)
section
variable {α : Type} {st s s1 : ST}
theorem fwk_bind {w : OB → (α → OB → Prop) → Prop} {V : α → OB → (Int32 → OB → Prop) → Prop} {r1 : α} (h1 : runB s w r1 s1) (h2 : FIN st s1 (V r1)) : FIN st s (fun o Q => w o (fun r o1 => V r o1 Q)) := by
  obtain ⟨T, a, b, h2⟩ := h2
  exact ⟨T, a, b, run_bind h1 h2⟩
theorem fwk_t {c : Prop} {A B : OB → (Int32 → OB → Prop) → Prop} (hc : c) (h : FIN st s A) : FIN st s (fun o Q => (c → A o Q) ∧ (¬ c → B o Q)) := by
  obtain ⟨T, a, b, h⟩ := h
  exact ⟨T, a, b, run_t hc h⟩
theorem fwk_f {c : Prop} {A B : OB → (Int32 → OB → Prop) → Prop} (hc : ¬ c) (h : FIN st s B) : FIN st s (fun o Q => (c → A o Q) ∧ (¬ c → B o Q)) := by
  obtain ⟨T, a, b, h⟩ := h
  exact ⟨T, a, b, run_f hc h⟩
theorem fwk_nt {c : Prop} {A B : OB → (Int32 → OB → Prop) → Prop} (hc : c) (h : FIN st s B) : FIN st s (fun o Q => (¬ c → A o Q) ∧ (c → B o Q)) := by
  obtain ⟨T, a, b, h⟩ := h
  exact ⟨T, a, b, run_nt hc h⟩
theorem fwk_nf {c : Prop} {A B : OB → (Int32 → OB → Prop) → Prop} (hc : ¬ c) (h : FIN st s A) : FIN st s (fun o Q => (¬ c → A o Q) ∧ (c → B o Q)) := by
  obtain ⟨T, a, b, h⟩ := h
  exact ⟨T, a, b, run_nf hc h⟩
theorem fwk_chk {w : OB → (Int64 → OB → Prop) → Prop} {x : Int64} {A B : Int64 → OB → (Int32 → OB → Prop) → Prop} (h1 : runB s w x s1) (h2 : FIN st s1 (B x)) : FIN st s (fun o Q => w o (fun r o1 => (¬ (lg_cmp r x) = 0 → A r o1 Q) ∧ ((lg_cmp r x) = 0 → B r o1 Q))) := fwk_bind h1 (fwk_nt (lgc x) h2)
/-- as fwk_chk, with what is asked for in another form -/
theorem fwk_chq {w : OB → (Int64 → OB → Prop) → Prop} {x y : Int64} {A B : Int64 → OB → (Int32 → OB → Prop) → Prop} (h1 : runB s w x s1) (e : x = y) (h2 : FIN st s1 (B x)) : FIN st s (fun o Q => w o (fun r o1 => (¬ (lg_cmp r y) = 0 → A r o1 Q) ∧ ((lg_cmp r y) = 0 → B r o1 Q))) := by
  subst e
  exact fwk_chk h1 h2
end
theorem psh_F {S : List DV} (hS : S.length ≤ 6) (d : DV) : ∃ T : List DV, psh S d = T ++ [d] ∧ T.length ≤ 6 ∧ ∀ e ∈ T, e ∈ S := by
  obtain ⟨T, h1, h2, h3⟩ := psh_end hS d
  exact ⟨T, h1, by omega, h3⟩
theorem prs_lt {d : DV} (hn : vn d ≤ 14) : prs (vn d) (vP d) (vB d) (vE d) ≤ 196 := by
  have h1 := prs2_le (vn d) (vP d) (vB d) (vE d)
  rw [prs_twice] at h1
  have h2 : vn d * vn d ≤ 14 * 14 := Nat.mul_le_mul hn hn
  omega
section
variable {st : ST} {b : Nat}
theorem run_f700 (hb : bestOf st.1 0 (2 ^ (vn st.1)) b) {S : List DV} (hS : S.length ≤ 6) (hSo : ∀ e ∈ S, DOK e) {x y z w p h : Int32} {q : Int64} :
    FIN st (stF st.1 S st) (fun o Q => wj_b_L_follows_700 Q o x (nI (vn st.1)) (nI (su b (vF st.1) (vn st.1))) (nI (su (vK st.1) (vF st.1) (vn st.1))) y z w p h q 1) := by
  obtain ⟨T, h1, h2, h3⟩ := psh_F hS st.1
  unfold wj_b_L_follows_700
  refine fwk_f (by decide) (fwk_bind (run_bestByTable (st := stF st.1 S st) hb) (fwk_nt rfl (fwk_bind (run_bookedFame (st := stF st.1 S st)) (fwk_nt rfl ?_))))
  refine fwk_chk (run_back (st := stF st.1 S st) (i := 1) (e := st.1) (by decide) (show upO st.2.2.1 1 st.1 1 = some st.1 from if_pos rfl)) (fwk_bind run_rehearsals (fwk_nt rfl (fwk_bind run_bookedFame (fwk_nt rfl ?_))))
  exact fwk_chk (run_undo h1) ⟨T, h2, fun e he => hSo e (h3 e he), run_ret⟩
theorem run_f633 (ok : OKs st) (hb : bestOf st.1 0 (2 ^ (vn st.1)) b) {S : List DV} (hS : S.length ≤ 6) (hSo : ∀ e ∈ S, DOK e) {x z w p h : Int32} (hw : ¬ w = 0) :
    FIN st (stF st.1 S st) (fun o Q => wj_b_L_follows_633 Q o x (nI (vn st.1)) (nI (su b (vF st.1) (vn st.1))) (nI (su (vK st.1) (vF st.1) (vn st.1))) (nI (prs (vn st.1) (vP st.1) (vB st.1) (vE st.1))) z w p h) := by
  have hn := ok.1.1
  obtain ⟨T, h1, h2, h3⟩ := psh_F hS st.1
  have hc0 : chO 0 (vB st.1) (vE st.1) (vn st.1) (vK st.1) := chO_mono (Nat.zero_le _) ok.1.2.2.2.2
  have okd : DOK (pauD st.1 0) := ok.1.pau (by decide) hc0
  obtain ⟨c, hc⟩ := bestOf_ex (pauD st.1 0)
  have f1 := suF_le ok.1 b
  have f2 : su c (vF st.1) (vn st.1) ≤ 700 := suF_le okd c
  have f3 := pau_best (q := 0) (Nat.zero_le _) hb hc
  have f4 := prs_mono (Nat.zero_le (vP st.1)) (vn st.1) (vB st.1) (vE st.1)
  have f5 := prs_lt hn
  unfold wj_b_L_follows_633
  refine fwk_bind (run_pause (st := stF st.1 S st)) (fwk_bind (run_pauseC (st := stF st.1 S st) (q := 0) (by decide) hc0) (fwk_f hw (fwk_nt (lgc _) ?_)))
  refine fwk_bind run_conflictsByPairs (fwk_f ?_ (fwk_bind (run_bestByTable (b := c) hc) (fwk_f ?_ (fwk_chk (run_undo h1) (fwk_bind run_pause (fwk_nt rfl (run_f700 hb h2 (fun e he => hSo e (h3 e he)))))))))
  · show ¬ nI (prs (vn st.1) (vP st.1) (vB st.1) (vE st.1)) < nI (prs (vn st.1) 0 (vB st.1) (vE st.1))
    rw [z_lt (by omega) (by omega)]
    omega
  · show ¬ nI (su c (vF st.1) (vn st.1)) < nI (su b (vF st.1) (vn st.1))
    rw [z_lt (by omega) (by omega)]
    omega
theorem run_f513 (ok : OKs st) (hb : bestOf st.1 0 (2 ^ (vn st.1)) b) {S : List DV} (hS : S.length ≤ 6) (hSo : ∀ e ∈ S, DOK e) {a : Nat} (ha : a < 2 ^ 31) {z p h : Int32} :
    FIN st (stF st.1 S st) (fun o Q => wj_b_L_follows_513 Q o (nI a) (nI (vn st.1)) (nI (su b (vF st.1) (vn st.1))) (nI (su (vK st.1) (vF st.1) (vn st.1))) (nI (prs (vn st.1) (vP st.1) (vB st.1) (vE st.1))) z 1 p h) := by
  have hn := ok.1.1
  obtain ⟨T, h1, h2, h3⟩ := psh_F hS st.1
  have hTo : ∀ e ∈ T, DOK e := fun e he => hSo e (h3 e he)
  unfold wj_b_L_follows_513
  refine fwk_f (by decide) ?_
  by_cases h14 : 14 ≤ (vn st.1)
  · exact fwk_t (by rw [z_14, z_le (by omega) (by omega)]; exact h14) (run_f633 ok hb hS hSo (by decide))
  · refine fwk_f (by rw [z_14, z_le (by omega) (by omega)]; exact h14) ?_
    have e95 : nI a - nI a / (95 : Int32) * (95 : Int32) = nI (a % 95) := pk_rem (d := 95) ha (by decide) (by decide)
    have e50 : nI a - nI a / (50 : Int32) * (50 : Int32) = nI (a % 50) := pk_rem (d := 50) ha (by decide) (by decide)
    have e1 : nI (a % 95) + (1 : Int32) = nI (a % 95 + 1) := nI_1 _
    have e2 : (1 : Int32) + nI (a % 50) = nI (1 + a % 50) := by rw [show (1 : Int32) = nI 1 from rfl, nI_add]
    have e3 : nI (su b (vF st.1) (vn st.1)) + (1 : Int32) + nI (a % 50) = nI (su b (vF st.1) (vn st.1) + 1 + a % 50) := by rw [nI_1, nI_add]
    rw [e95, e50, e1, e2, e3]
    have okd : DOK (addD st.1 (a % 95) (a % 95 + 1) (1 + a % 50)) := ok.1.add (by omega) (by omega) (by omega) (by omega) (by omega)
    obtain ⟨L', R', W', c, x', mo', hdg⟩ := dgO_ex (addD st.1 (a % 95) (a % 95 + 1) (1 + a % 50))
    obtain ⟨-, -, hW, hc, -, -⟩ := hdg
    have rl := rl_add st.1 (a % 95) (a % 95 + 1) (1 + a % 50)
    obtain ⟨g1, g2, -⟩ := rl_best rl hc hb
    have g3 := rl_prs rl
    have eF : vF (addD st.1 (a % 95) (a % 95 + 1) (1 + a % 50)) (vn st.1) = 1 + a % 50 := upN_s
    have hWn := hW (vn st.1) (Nat.lt_succ_self _)
    have g4 := with_ge (d := addD st.1 (a % 95) (a % 95 + 1) (1 + a % 50)) (r := (vn st.1)) (Nat.lt_succ_self _) hWn
    rw [eF] at g2 g4
    have f1 := suF_le ok.1 b
    have f2 := suF_le okd c
    have f3 := suF_le okd (W' (vn st.1))
    have f4 := prs_lt okd.1
    have f5 := prs_lt hn
    have hKn : (vK st.1).testBit (vn st.1) = false := by
      cases hx : (vK st.1).testBit (vn st.1)
      · rfl
      · have := bit_lt ok.1.2.2.2.1 hx
        omega
    refine fwk_chk (run_add (st := stF st.1 S st) (by omega) (by omega) (by omega) (by omega) (by show (vn st.1) < 14; omega)) ?_
    refine fwk_bind (run_bestByTable (b := c) hc) (fwk_f (by (try dsimp only [stF]); rw [z_lt (by omega) (by omega)]; omega) (fwk_bind (run_bestByTable (b := c) hc) (fwk_f (by (try dsimp only [stF]); rw [z_lt (by omega) (by omega)]; omega) ?_)))
    refine fwk_bind (run_bestWith (r := (vn st.1)) (Nat.lt_succ_self _) hWn) (fwk_f (by (try dsimp only [stF]); rw [lgLe (by omega) (by omega)]; omega) ?_)
    refine fwk_bind (run_isBooked (r := (vn st.1)) (Nat.lt_succ_self _)) (fwk_nt ?_ ?_)
    · show lg_cmp (if (vK st.1).testBit (vn st.1) = true then 1 else 0) 0 = 0
      rw [hKn]
      decide
    · refine fwk_bind run_conflictsByPairs (fwk_bind (run_conflictsOf (r := (vn st.1)) (Nat.lt_succ_self _)) (fwk_nt ?_ ?_))
      · have f6 := ct_le (cl (vP (addD st.1 (a % 95) (a % 95 + 1) (1 + a % 50))) (vB (addD st.1 (a % 95) (a % 95 + 1) (1 + a % 50))) (vE (addD st.1 (a % 95) (a % 95 + 1) (1 + a % 50))) (vn st.1)) (vn (addD st.1 (a % 95) (a % 95 + 1) (1 + a % 50)))
        have f7 := okd.1
        try dsimp only [stF]
        rw [i64_add (by omega) (by omega), lge (by omega) (by omega)]
        exact g3
      · refine fwk_chk (run_undo h1) ?_
        unfold wj_b_L_follows_631
        exact run_f633 ok hb h2 hTo (by decide)
variable {W : Nat → Nat}
theorem run_f429 (ok : OKs st) (hb : bestOf st.1 0 (2 ^ (vn st.1)) b) {k : Nat} (hk : k < (vn st.1)) (hW : bestOf st.1 (2 ^ k) (2 ^ (vn st.1)) (W k)) {K : (Int32 → OB → Prop) → OB → Int32 → Int32 → Int32 → Int32 → Int32 → Int32 → Int32 → Int32 → Int32 → Prop} {S : List DV} (hS : S.length ≤ 6) (hSo : ∀ e ∈ S, DOK e) {x1 x5 x6 x8 x11 x13 : Int32} {x7 x4 : Int32}
    (hK : ∀ T : List DV, T.length ≤ 6 → (∀ e ∈ T, DOK e) → FIN st (stF st.1 T st) (fun o Q => K Q o x1 (nI (vn st.1)) (nI (su b (vF st.1) (vn st.1))) x4 x5 x6 1 x8 (nI k + 1))) :
    FIN st (stF st.1 S st) (fun o Q => wj_b_L_follows_429 Q (K Q) o x1 (nI (vn st.1)) (nI (su b (vF st.1) (vn st.1))) x4 x5 x6 x7 x8 (nI k) (nI (vF st.1 k)) x11 (nI (su (W k) (vF st.1) (vn st.1))) x13 1) := by
  have hn := ok.1.1
  obtain ⟨T, h1, h2, h3⟩ := psh_F hS st.1
  have hTo : ∀ e ∈ T, DOK e := fun e he => hSo e (h3 e he)
  obtain ⟨o1, o2, o3, o4⟩ := ok.1.2.2.1 k hk
  have okd : DOK (famD st.1 k 50) := ok.1.fam (by decide) (by decide)
  obtain ⟨L', R', W', c, x', mo', hdg⟩ := dgO_ex (famD st.1 k 50)
  obtain ⟨-, -, hW', hc, -, -⟩ := hdg
  have g1 := fam_with hk o4 hW (hW' k hk)
  have g2 := fam_best hk o4 hb hc
  have f1 := suF_le ok.1 b
  have f2 := suF_le ok.1 (W k)
  have f3 : su c (upN (vF st.1) k 50) (vn st.1) ≤ 700 := suF_le okd c
  have e1 : nI (su (W k) (vF st.1) (vn st.1)) + (50 : Int32) - nI (vF st.1 k) = nI (su (W' k) (upN (vF st.1) k 50) (vn st.1)) := by
    rw [z_50, nI_add, z_sub (by omega), g1]
    congr 1
    omega
  unfold wj_b_L_follows_429
  rw [e1]
  refine fwk_f (by decide) (fwk_chk (run_fame (st := stF st.1 S st) (r := k) (f := 50) hk (by decide) (by decide)) ?_)
  refine fwk_chk (run_bestWith (r := k) hk (hW' k hk)) (fwk_bind (run_bestByTable (b := c) hc) (fwk_f ?_ (fwk_chk (run_undo h1) (fwk_chk (run_fameOf hk) (hK T h2 hTo)))))
  show ¬ nI (su c (upN (vF st.1) k 50) (vn st.1)) < nI (su b (vF st.1) (vn st.1))
  rw [z_lt (by omega) (by omega)]
  omega
theorem run_f305 (ok : OKs st) (hb : bestOf st.1 0 (2 ^ (vn st.1)) b) {k : Nat} (hk : k < (vn st.1)) (hW : bestOf st.1 (2 ^ k) (2 ^ (vn st.1)) (W k)) {K : (Int32 → OB → Prop) → OB → Int32 → Int32 → Int32 → Int32 → Int32 → Int32 → Int32 → Int32 → Int32 → Prop} {S : List DV} (hS : S.length ≤ 6) (hSo : ∀ e ∈ S, DOK e) {x1 x8 x7 : Int32}
    (hK : ∀ T : List DV, T.length ≤ 6 → (∀ e ∈ T, DOK e) → FIN st (stF st.1 T st) (fun o Q => K Q o x1 (nI (vn st.1)) (nI (su b (vF st.1) (vn st.1))) (nI (su (vK st.1) (vF st.1) (vn st.1))) (nI (prs (vn st.1) (vP st.1) (vB st.1) (vE st.1))) (nI b) 1 x8 (nI k + 1))) :
    FIN st (stF st.1 S st) (fun o Q => wj_b_L_follows_305 Q (K Q) o x1 (nI (vn st.1)) (nI (su b (vF st.1) (vn st.1))) (nI (su (vK st.1) (vF st.1) (vn st.1))) (nI (prs (vn st.1) (vP st.1) (vB st.1) (vE st.1))) (nI b) x7 x8 (nI k) (nI (vF st.1 k)) (nI (ct (cl (vP st.1) (vB st.1) (vE st.1) k) (vn st.1))) (nI (su (W k) (vF st.1) (vn st.1))) (if (vK st.1).testBit k = true then 1 else 0) 1) := by
  have hn := ok.1.1
  have hM14 : (2:Nat) ^ (vn st.1) ≤ 2 ^ 14 := Nat.pow_le_pow_right (by decide) hn
  have hb14 := hb.1
  obtain ⟨T, h1, h2, h3⟩ := psh_F hS st.1
  have hTo : ∀ e ∈ T, DOK e := fun e he => hSo e (h3 e he)
  have okd : DOK (delD st.1 k) := ok.1.del hk
  obtain ⟨c, hc⟩ := bestOf_ex (delD st.1 k)
  have rl := rl_del hk
  obtain ⟨g1, g2, g3⟩ := rl_best rl hb hc
  have g4 := rl_prs rl
  have g5 := rl_su rl (S := vK st.1) (T := rmb (vK st.1) k) (fun j _ => by rw [rmb_bit]; unfold sg; split <;> rfl)
  have g6 := with_ge hk hW
  have g7 := with_le hb hW
  have f1 := suF_le ok.1 b
  have f2 := suF_le okd c
  have f3 := suF_le ok.1 (vK st.1)
  have f4 := prs_lt hn
  have f5 := ct_le (cl (vP st.1) (vB st.1) (vE st.1) k) (vn st.1)
  have f6 := suF_le okd (rmb (vK st.1) k)
  have i429 : ∀ {x7 : Int32}, FIN st (stF st.1 T st) (fun o Q => wj_b_L_follows_429 Q (K Q) o x1 (nI (vn st.1)) (nI (su b (vF st.1) (vn st.1))) (nI (su (vK st.1) (vF st.1) (vn st.1))) (nI (prs (vn st.1) (vP st.1) (vB st.1) (vE st.1))) (nI b) x7 x8 (nI k) (nI (vF st.1 k)) (nI (ct (cl (vP st.1) (vB st.1) (vE st.1) k) (vn st.1))) (nI (su (W k) (vF st.1) (vn st.1))) (if (vK st.1).testBit k = true then 1 else 0) 1) := fun {x7} => run_f429 ok hb hk hW h2 hTo hK
  have i385 : ∀ {x7 : Int32}, FIN st (delD st.1 k, psh S st.1, (stF st.1 S st).2.2) (fun o Q => wj_b_L_follows_385 Q (K Q) o x1 (nI (vn st.1)) (nI (su b (vF st.1) (vn st.1))) (nI (su (vK st.1) (vF st.1) (vn st.1))) (nI (prs (vn st.1) (vP st.1) (vB st.1) (vE st.1))) (nI b) x7 x8 (nI k) (nI (vF st.1 k)) (nI (ct (cl (vP st.1) (vB st.1) (vE st.1) k) (vn st.1))) (nI (su (W k) (vF st.1) (vn st.1))) (if (vK st.1).testBit k = true then 1 else 0)) := by
    intro x7
    have i404 : ∀ {y0 y1 : Int32}, y0 = y1 → FIN st (delD st.1 k, psh S st.1, (stF st.1 S st).2.2) (fun o Q => wj_b_L_follows_404 Q (K Q) o x1 (nI (vn st.1)) (nI (su b (vF st.1) (vn st.1))) (nI (su (vK st.1) (vF st.1) (vn st.1))) (nI (prs (vn st.1) (vP st.1) (vB st.1) (vE st.1))) (nI b) x7 x8 (nI k) (nI (vF st.1 k)) (nI (ct (cl (vP st.1) (vB st.1) (vE st.1) k) (vn st.1))) (nI (su (W k) (vF st.1) (vn st.1))) (if (vK st.1).testBit k = true then 1 else 0) y0 y1) := by
      intro y0 y1 e
      unfold wj_b_L_follows_404
      exact fwk_nt e (fwk_chk (run_undo h1) (fwk_bind run_rehearsals (fwk_nt rfl i429)))
    unfold wj_b_L_follows_385
    refine fwk_bind run_bookedFame ?_
    by_cases hi : (vK st.1).testBit k = true
    · rw [if_pos hi] at g5
      refine fwk_f (by rw [if_pos hi]; decide) (i404 ?_)
      rw [z_sub (by omega)]
      show nI (su (rmb (vK st.1) k) (vF (delD st.1 k)) (vn (delD st.1 k))) = _
      congr 1
      omega
    · rw [if_neg hi] at g5
      refine fwk_t (if_neg hi) (i404 ?_)
      show nI (su (rmb (vK st.1) k) (vF (delD st.1 k)) (vn (delD st.1 k))) = _
      rw [g5]
      rfl
  have en : nI (vn st.1) - (1 : Int32) = nI (vn (delD st.1 k)) := by
    rw [show (1 : Int32) = nI 1 from rfl, z_sub (by omega)]
    rfl
  have ep : nI (prs (vn st.1) (vP st.1) (vB st.1) (vE st.1)) - nI (ct (cl (vP st.1) (vB st.1) (vE st.1) k) (vn st.1)) = nI (prs (vn (delD st.1 k)) (vP (delD st.1 k)) (vB (delD st.1 k)) (vE (delD st.1 k))) := by
    rw [z_sub (by omega)]
    congr 1
    omega
  unfold wj_b_L_follows_305
  rw [en, ep, z_sub (by omega : vF st.1 k ≤ su b (vF st.1) (vn st.1)), bitI (by omega) (by omega)]
  refine fwk_f (by decide) (fwk_chk (run_strike (st := stF st.1 S st) hk) (fwk_bind run_rehearsals (fwk_nt rfl (fwk_bind run_conflictsByPairs (fwk_nt rfl ?_)))))
  refine fwk_bind (run_bestByTable (b := c) hc) (fwk_f (by (try dsimp only [stF]); rw [z_lt (by omega) (by omega)]; omega) (fwk_bind (run_bestByTable (b := c) hc) (fwk_f (by (try dsimp only [stF]); rw [z_lt (by omega) (by omega)]; omega) ?_)))
  by_cases hch : b.testBit k = true
  · exact fwk_t (if_pos hch) i385
  · refine fwk_f (by rw [if_neg hch]; decide) (fwk_bind (run_bestByTable (b := c) hc) (fwk_nt ?_ i385))
    show nI (su c (vF (delD st.1 k)) (vn (delD st.1 k))) = _
    rw [g3 (by cases hx : b.testBit k; rfl; exact absurd hx hch)]
theorem run_f221 (ok : OKs st) (hb : bestOf st.1 0 (2 ^ (vn st.1)) b) {k : Nat} (hk : k < (vn st.1)) (hW : bestOf st.1 (2 ^ k) (2 ^ (vn st.1)) (W k)) {K : (Int32 → OB → Prop) → OB → Int32 → Int32 → Int32 → Int32 → Int32 → Int32 → Int32 → Int32 → Int32 → Prop} {S : List DV} (hS : S.length ≤ 6) (hSo : ∀ e ∈ S, DOK e) {x1 x8 x7 y : Int32} (hy : y = (if (vK st.1).testBit k = true then 1 else 0))
    (hK : ∀ T : List DV, T.length ≤ 6 → (∀ e ∈ T, DOK e) → FIN st (stF st.1 T st) (fun o Q => K Q o x1 (nI (vn st.1)) (nI (su b (vF st.1) (vn st.1))) (nI (su (vK st.1) (vF st.1) (vn st.1))) (nI (prs (vn st.1) (vP st.1) (vB st.1) (vE st.1))) (nI b) 1 x8 (nI k + 1))) :
    FIN st (stF st.1 S st) (fun o Q => wj_b_L_follows_221 Q (K Q) o x1 (nI (vn st.1)) (nI (su b (vF st.1) (vn st.1))) (nI (su (vK st.1) (vF st.1) (vn st.1))) (nI (prs (vn st.1) (vP st.1) (vB st.1) (vE st.1))) (nI b) x7 x8 (nI k) (nI (vF st.1 k)) (nI (ct (cl (vP st.1) (vB st.1) (vE st.1) k) (vn st.1))) (nI (su (W k) (vF st.1) (vn st.1))) y) := by
  have hn := ok.1.1
  subst hy
  have i291 : ∀ {S : List DV}, S.length ≤ 6 → (∀ e ∈ S, DOK e) → FIN st (stF st.1 S st) (fun o Q => wj_b_L_follows_291 Q (K Q) o x1 (nI (vn st.1)) (nI (su b (vF st.1) (vn st.1))) (nI (su (vK st.1) (vF st.1) (vn st.1))) (nI (prs (vn st.1) (vP st.1) (vB st.1) (vE st.1))) (nI b) x7 x8 (nI k) (nI (vF st.1 k)) (nI (ct (cl (vP st.1) (vB st.1) (vE st.1) k) (vn st.1))) (nI (su (W k) (vF st.1) (vn st.1))) (if (vK st.1).testBit k = true then 1 else 0)) := by
    intro S hS hSo
    unfold wj_b_L_follows_291
    exact fwk_bind (run_bookedFame (st := stF st.1 S st)) (fwk_nt rfl (run_f305 ok hb hk hW hS hSo hK))
  unfold wj_b_L_follows_221
  by_cases hi : (vK st.1).testBit k = true
  · have g1 := su_clr (vF st.1) hk hn ok.1.K31 hi
    have f3 := suF_le ok.1 (vK st.1)
    have f4 := clr_put (by omega : k < 31) ok.1.K31 hi
    obtain ⟨T, h1, h2, h3⟩ := psh_two hS st.1 (booD st.1 (clr (vK st.1) k))
    have hbk : (clr (vK st.1) k).testBit k = false ∧ mk (cl (vP st.1) (vB st.1) (vE st.1) k) (vn st.1) &&& clr (vK st.1) k = 0 := by
      refine ⟨by rw [clr_bit (by omega) ok.1.K31]; simp, ?_⟩
      rw [mk_and]
      intro j hj hc
      cases hx : (clr (vK st.1) k).testBit j
      · rfl
      · rw [clr_bit (by omega) ok.1.K31] at hx
        simp at hx
        have := ok.1.2.2.2.2 k j hk hj hi hx.1
        rw [hc] at this; cases this
    refine fwk_f (by rw [if_pos hi]; decide) (fwk_chq (run_cancel (st := stF st.1 S st) hk hi) ?_ ?_)
    · show (nI (su (clr (vK st.1) k) (vF st.1) (vn st.1))).toInt64 = _
      rw [z_sub (by omega)]
      congr 2
      omega
    · refine fwk_chq (run_book (st := (booD st.1 (clr (vK st.1) k), psh S st.1, (stF st.1 S st).2.2)) hk hbk) ?_ ?_
      · show (nI (su (clr (vK st.1) k ||| 2 ^ k) (vF st.1) (vn st.1))).toInt64 = _
        rw [f4]
      · refine fwk_chk (run_undo (e := booD st.1 (clr (vK st.1) k)) (T := T ++ [st.1]) h1) (fwk_chk (run_undo (e := st.1) (T := T) rfl) ?_)
        exact i291 (by omega) (fun e he => hSo e (h3 e he))
  · have hi2 : (vK st.1).testBit k = false := by
      cases hx : (vK st.1).testBit k
      · rfl
      · exact absurd hx hi
    exact fwk_t (if_neg hi) (fwk_chk (run_cancel_state (st := stF st.1 S st) hk hi2) (i291 hS hSo))
theorem run_f167 (ok : OKs st) (hb : bestOf st.1 0 (2 ^ (vn st.1)) b) (hW : ∀ k, k < (vn st.1) → bestOf st.1 (2 ^ k) (2 ^ (vn st.1)) (W k)) {a : Nat} (ha : a < 2 ^ 31) {x8 : Int32} : ∀ m k : Nat, (vn st.1) ≤ k + m → k ≤ (vn st.1) → ∀ S : List DV, S.length ≤ 6 → (∀ e ∈ S, DOK e) →
    FIN st (stF st.1 S st) (fun o Q => wl_b_L_follows_167 Q (m + 1) o (nI a) (nI (vn st.1)) (nI (su b (vF st.1) (vn st.1))) (nI (su (vK st.1) (vF st.1) (vn st.1))) (nI (prs (vn st.1) (vP st.1) (vB st.1) (vE st.1))) (nI b) 1 x8 (nI k)) := by
  have hn := ok.1.1
  intro m
  induction m with
  | zero =>
    intro k hk hk2 S hS hSo
    unfold wl_b_L_follows_167
    exact fwk_t (by rw [z_le (by omega) (by omega)]; omega) (run_f513 ok hb hS hSo ha)
  | succ m ih =>
    intro k hk hk2 S hS hSo
    unfold wl_b_L_follows_167
    by_cases hkn : (vn st.1) ≤ k
    · exact fwk_t (by rw [z_le (by omega) (by omega)]; omega) (run_f513 ok hb hS hSo ha)
    · have ih := ih (k + 1) (by omega) (by omega)
      rw [← nI_1] at ih
      have hkn : k < (vn st.1) := by omega
      refine fwk_f (by rw [z_le (by omega) (by omega)]; omega) (fwk_f (by decide) (fwk_bind (run_fameOf (st := stF st.1 S st) hkn) (fwk_bind (run_conflictsOf (st := stF st.1 S st) hkn) (fwk_bind (run_bestWith (st := stF st.1 S st) hkn (hW k hkn)) (fwk_bind (run_isBooked (st := stF st.1 S st) hkn) ?_)))))
      rw [Int32.toInt32_toInt64, Int32.toInt32_toInt64, Int32.toInt32_toInt64]
      have i221 := fun {y : Int32} (hy : y = (if (vK st.1).testBit k = true then 1 else 0)) => run_f221 (x7 := 1) (K := fun Q z0 z1 z2 z3 z4 z5 z6 z7 z8 z9 => wl_b_L_follows_167 Q (m + 1) z0 z1 z2 z3 z4 z5 z6 z7 z8 z9) ok hb hkn (hW k hkn) hS hSo hy ih
      by_cases hi : (vK st.1).testBit k = true
      · exact fwk_nt (show lg_cmp (if (vK st.1).testBit k = true then 1 else 0) 1 = 0 by rw [if_pos hi]; decide) (i221 (by rw [if_pos hi]))
      · exact fwk_nf (show ¬ lg_cmp (if (vK st.1).testBit k = true then 1 else 0) 1 = 0 by rw [if_neg hi]; decide) (i221 (by rw [if_neg hi]))
theorem run_f92 (ok : OKs st) (hb : bestOf st.1 0 (2 ^ (vn st.1)) b) (hW : ∀ k, k < (vn st.1) → bestOf st.1 (2 ^ k) (2 ^ (vn st.1)) (W k)) {a : Nat} (ha : a < 2 ^ 31) {x8 : Int32} {S : List DV} (hS : S.length ≤ 6) (hSo : ∀ e ∈ S, DOK e) : ∀ m k : Nat, (vn st.1) ≤ k + m → k ≤ (vn st.1) →
    FIN st (booD st.1 b, psh S st.1, (stF st.1 S st).2.2) (fun o Q => wl_b_L_follows_92 Q (m + 1) o (nI a) (nI (vn st.1)) (nI (su b (vF st.1) (vn st.1))) (nI (su (vK st.1) (vF st.1) (vn st.1))) (nI (prs (vn st.1) (vP st.1) (vB st.1) (vE st.1))) (nI b) 1 x8 (nI k)) := by
  have hn := ok.1.1
  have hM14 : (2:Nat) ^ (vn st.1) ≤ 2 ^ 14 := Nat.pow_le_pow_right (by decide) hn
  have hb14 := hb.1
  have i134 : ∀ {x9 : Int32}, FIN st (booD st.1 b, psh S st.1, (stF st.1 S st).2.2) (fun o Q => wj_b_L_follows_134 Q o (nI a) (nI (vn st.1)) (nI (su b (vF st.1) (vn st.1))) (nI (su (vK st.1) (vF st.1) (vn st.1))) (nI (prs (vn st.1) (vP st.1) (vB st.1) (vE st.1))) (nI b) 1 x8 x9) := by
    intro x9
    obtain ⟨T, h1, h2, h3⟩ := psh_F hS st.1
    unfold wj_b_L_follows_134
    exact fwk_f (by decide) (fwk_chk (run_undo h1) (fwk_bind run_bookedFame (fwk_nt rfl (run_f167 ok hb hW ha 14 0 (by omega) (by omega) T h2 (fun e he => hSo e (h3 e he))))))
  intro m
  induction m with
  | zero =>
    intro k hk hk2
    unfold wl_b_L_follows_92
    exact fwk_t (by rw [z_le (by omega) (by omega)]; omega) i134
  | succ m ih =>
    intro k hk hk2
    unfold wl_b_L_follows_92
    by_cases hkn : (vn st.1) ≤ k
    · exact fwk_t (by rw [z_le (by omega) (by omega)]; omega) i134
    · have ih := ih (k + 1) (by omega) (by omega)
      rw [← nI_1] at ih
      have hkn : k < (vn st.1) := by omega
      rw [bitI (by omega) (by omega)]
      refine fwk_f (by rw [z_le (by omega) (by omega)]; omega) (fwk_f (by decide) (fwk_bind (run_isBooked (st := (booD st.1 b, psh S st.1, (stF st.1 S st).2.2)) hkn) (fwk_nt ?_ ih)))
      show lg_cmp (if b.testBit k = true then 1 else 0) (if b.testBit k = true then (1 : Int32) else 0).toInt64 = 0
      cases b.testBit k <;> decide
theorem run_follows (ok : OKs st) (hs : st.2.1.length ≤ 6) {a : Nat} (ha : a < 2 ^ 31) : FIN st st (fun o Q => wb_L_follows o (nI a) Q) := by
  have hn := ok.1.1
  obtain ⟨L, R, W, b, x, mo, hdg⟩ := dgO_ex st.1
  obtain ⟨-, -, hW, hb, -, -⟩ := hdg
  unfold wb_L_follows
  refine fwk_bind run_rehearsals (fwk_bind (run_bestByTable hb) (fwk_bind run_bookedFame (fwk_bind run_conflictsByPairs (fwk_bind (run_bestChoice hb) (fwk_chk (run_keep (i := 1) (by decide)) ?_)))))
  unfold wj_b_L_follows_43
  refine fwk_bind (run_bookBest hb) (fwk_f (by decide) (fwk_bind run_booked (fwk_nt rfl (fwk_bind run_bookedFame (fwk_nt rfl (fwk_bind (run_bestChoice (b := b) hb) (fwk_nt rfl ?_)))))))
  exact run_f92 ok hb hW ha hs ok.2.1 14 0 (by omega) (by omega)

end
