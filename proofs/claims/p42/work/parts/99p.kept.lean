/-! p42: what is booked is a choice; conflicts, rooms and fames are the same both ways; the best choice is one, with the greatest fame -/
theorem i64_toInt {a : Nat} (ha : a < 2 ^ 31) : (nI a).toInt64.toInt = a := by rw [Int32.toInt_toInt64, nI_toInt ha]
theorem i64_lt {a b : Nat} (ha : a < 2 ^ 31) (hb : b < 2 ^ 31) : ((nI a).toInt64 < (nI b).toInt64) = (a < b) := by
  rw [Int64.lt_iff_toInt_lt, i64_toInt ha, i64_toInt hb]
  exact propext (by omega)
theorem i64_eq {a b : Nat} (ha : a < 2 ^ 31) (hb : b < 2 ^ 31) : ((nI a).toInt64 = (nI b).toInt64) = (a = b) := by
  refine propext ⟨fun h => ?_, fun h => by rw [h]⟩
  have h2 := congrArg Int64.toInt h
  rw [i64_toInt ha, i64_toInt hb] at h2
  omega
theorem lgl {a b : Nat} (ha : a < 2 ^ 31) (hb : b < 2 ^ 31) : (lg_cmp (nI a).toInt64 (nI b).toInt64 < 0) = (a < b) := by rw [propext (lg_cmp_lt _ _), i64_lt ha hb]
theorem lgg {a b : Nat} (ha : a < 2 ^ 31) (hb : b < 2 ^ 31) : (0 < lg_cmp (nI a).toInt64 (nI b).toInt64) = (b < a) := by rw [propext (lg_cmp_gt _ _), i64_lt hb ha]
theorem lge {a b : Nat} (ha : a < 2 ^ 31) (hb : b < 2 ^ 31) : (lg_cmp (nI a).toInt64 (nI b).toInt64 = 0) = (a = b) := by rw [propext (lg_cmp_eq _ _), i64_eq ha hb]
theorem lgG {a b : Nat} (ha : a < 2 ^ 31) (hb : b < 2 ^ 31) : (0 ≤ lg_cmp (nI a).toInt64 (nI b).toInt64) = (b ≤ a) := by
  rw [propext (lg_cmp_ge _ _), Int64.le_iff_toInt_le, i64_toInt ha, i64_toInt hb]
  exact propext (by omega)
theorem bitI {S k : Nat} (hS : S < 2 ^ 31) (hk : k < 32) : ((nI S >>> (nI k &&& 31)) &&& (1 : Int32)) = if S.testBit k = true then 1 else 0 := by
  show ((nI S >>> (nI k &&& 31)) &&& nI 1) = _
  rw [z_shr hS hk, z_and, Nat.and_one_is_mod, bit_shr]
  cases S.testBit k <;> rfl
theorem run_in {β : Type} {st st' : ST} {a c e : Int64} {V : Int32 → OB → (β → OB → Prop) → Prop} {r : β} (h1 : ¬ lg_cmp a c < 0) (h2 : ¬ 0 < lg_cmp a e) (h : runB st (V 1) r st') : runB st (fun o Q => wb_L_in a c e (fun r => V r o Q)) r st' :=
  fun o ho Q k => ⟨fun x => absurd x h1, fun _ => ⟨fun x => absurd x h2, fun _ => h o ho Q k⟩⟩
section
variable {st : ST} {L : List Nat} {R W : Nat → Nat} {b x mo : Nat}
theorem suF_up (S : Nat) (F : Nat → Nat) (k : Nat) : nI (su S F k) + (if S.testBit k = true then nI (F k) else 0) = nI (su S F (k + 1)) := by
  show _ = nI (if S.testBit k = true then su S F k + F k else su S F k)
  cases S.testBit k
  · show nI (su S F k) + 0 = nI (su S F k)
    rw [z_0, nI_add]; rfl
  · show nI (su S F k) + nI (F k) = nI (su S F k + F k)
    rw [nI_add]
theorem ct_up (p : Nat → Bool) (k : Nat) : nI (ct p k) + (if p k = true then 1 else 0) = nI (ct p (k + 1)) := by
  show _ = nI (if p k = true then ct p k + 1 else ct p k)
  cases p k
  · show nI (ct p k) + 0 = nI (ct p k)
    rw [z_0, nI_add]; rfl
  · show nI (ct p k) + 1 = nI (ct p k + 1)
    rw [nI_1]
/-- the inner loop: the foes of k -/
theorem run_k305 (ok : OKs st) (hL : ordB st.1 L) (hg : gvn st.1 L R (vn st.1)) (hb : bestOf st.1 0 (2 ^ (vn st.1)) b) {k : Nat} (hk : k < (vn st.1)) {K : (Int32 → OB → Prop) → OB → Int32 → Int32 → Int32 → Int32 → Int32 → Int32 → Int32 → Int32 → Int32 → Prop} {x4 x5 x6 x7 x8 : Int32}
    (hK : runB st (fun o Q => wj_b_L_kept_413 Q (K Q) o (nI (vn st.1)) (nI b) 1 x4 x5 x6 x7 x8 (nI k) (if b.testBit k = true then 1 else 0) (if (vK st.1).testBit k = true then 1 else 0) (nI (ct (cl (vP st.1) (vB st.1) (vE st.1) k) (vn st.1))) (nI (vn st.1))) 1 st) :
    ∀ m j : Nat, (vn st.1) ≤ j + m → j ≤ (vn st.1) → runB st (fun o Q => wl_b_L_kept_305 Q (K Q) (m + 1) o (nI (vn st.1)) (nI b) 1 x4 x5 x6 x7 x8 (nI k) (if b.testBit k = true then 1 else 0) (if (vK st.1).testBit k = true then 1 else 0) (nI (ct (cl (vP st.1) (vB st.1) (vE st.1) k) j)) (nI j)) 1 st := by
  have hn := ok.1.1
  have hM14 : (2:Nat) ^ (vn st.1) ≤ 2 ^ 14 := Nat.pow_le_pow_right (by decide) hn
  have hb14 := hb.1
  have hcb := (chB_iff st.1 b).mp hb.2.1.1
  intro m
  induction m with
  | zero =>
    intro j hj hj2
    have e : j = (vn st.1) := by omega
    subst e
    unfold wl_b_L_kept_305
    exact run_t (by rw [z_le (by omega) (by omega)]; omega) hK
  | succ m ih =>
    intro j hj hj2
    unfold wl_b_L_kept_305
    by_cases hjn : (vn st.1) ≤ j
    · have e : j = (vn st.1) := by omega
      subst e
      exact run_t (by rw [z_le (by omega) (by omega)]; omega) hK
    · have ih := ih (j + 1) (by omega) (by omega)
      rw [← nI_1, ← ct_up] at ih
      have hjn : j < (vn st.1) := by omega
      refine run_f (by rw [z_le (by omega) (by omega)]; omega) (run_f (by decide) (run_bind (run_conflict hk hjn) ?_))
      cases hc : cl (vP st.1) (vB st.1) (vE st.1) k j
      · rw [hc] at ih
        refine run_nf (by decide) ?_
        unfold wj_b_L_kept_333
        refine run_t rfl ?_
        unfold wj_b_L_kept_347
        refine run_t rfl ?_
        unfold wj_b_L_kept_401
        exact ih
      · rw [hc] at ih
        refine run_nt (by decide) ?_
        unfold wj_b_L_kept_333
        refine run_f (by decide) ?_
        unfold wj_b_L_kept_347
        refine run_f (by decide) ?_
        have i401 : runB st (fun o Q => wj_b_L_kept_401 Q (fun z0 z1 z2 z3 z4 z5 z6 z7 z8 z9 z10 z11 z12 z13 => wl_b_L_kept_305 Q (K Q) (m + 1) z0 z1 z2 z3 z4 z5 z6 z7 z8 z9 z10 z11 z12 z13) (K Q) o (nI (vn st.1)) (nI b) 1 x4 x5 x6 x7 x8 (nI k) (if b.testBit k = true then 1 else 0) (if (vK st.1).testBit k = true then 1 else 0) (nI (ct (cl (vP st.1) (vB st.1) (vE st.1) k) j) + 1) (nI j) 1) 1 st := by
          unfold wj_b_L_kept_401
          exact ih
        have i385 : runB st (fun o Q => wj_b_L_kept_385 Q (fun z0 z1 z2 z3 z4 z5 z6 z7 z8 z9 z10 z11 z12 z13 => wl_b_L_kept_305 Q (K Q) (m + 1) z0 z1 z2 z3 z4 z5 z6 z7 z8 z9 z10 z11 z12 z13) (K Q) o (nI (vn st.1)) (nI b) 1 x4 x5 x6 x7 x8 (nI k) (if b.testBit k = true then 1 else 0) (if (vK st.1).testBit k = true then 1 else 0) (nI (ct (cl (vP st.1) (vB st.1) (vE st.1) k) j) + 1) (nI j) 1) 1 st := by
          unfold wj_b_L_kept_385
          have g1 := gvn_14 ok.1 hL hg hk
          have g2 := gvn_14 ok.1 hL hg hjn
          refine run_bind (run_roomOf hL hg hk) (run_bind (run_roomOf hL hg hjn) (run_f ?_ i401))
          rw [lge (by omega) (by omega)]
          exact room_ne hL hg hk hjn hc
        have i369 : runB st (fun o Q => wj_b_L_kept_369 Q (fun z0 z1 z2 z3 z4 z5 z6 z7 z8 z9 z10 z11 z12 z13 => wl_b_L_kept_305 Q (K Q) (m + 1) z0 z1 z2 z3 z4 z5 z6 z7 z8 z9 z10 z11 z12 z13) (K Q) o (nI (vn st.1)) (nI b) 1 x4 x5 x6 x7 x8 (nI k) (if b.testBit k = true then 1 else 0) (if (vK st.1).testBit k = true then 1 else 0) (nI (ct (cl (vP st.1) (vB st.1) (vE st.1) k) j) + 1) (nI j) 1) 1 st := by
          unfold wj_b_L_kept_369
          by_cases hi : (vK st.1).testBit k = true
          · refine run_f (by rw [if_pos hi]; decide) (run_bind (run_isBooked hjn) (run_nt ?_ i385))
            cases hj : (vK st.1).testBit j
            · decide
            · have := ok.1.2.2.2.2 k j hk hjn hi hj
              rw [hc] at this; cases this
          · exact run_t (if_neg hi) i385
        by_cases hch : b.testBit k = true
        · refine run_f (by rw [if_pos hch]; decide) ?_
          rw [bitI (by omega) (by omega)]
          cases hj : b.testBit j
          · exact run_nt (by decide) i369
          · have := hcb k j hk hjn hch hj
            rw [hc] at this; cases this
        · exact run_t (if_neg hch) i369
theorem run_k413 (ok : OKs st) (hb : bestOf st.1 0 (2 ^ (vn st.1)) b) {k : Nat} (hk : k < (vn st.1)) (hW : bestOf st.1 (2 ^ k) (2 ^ (vn st.1)) (W k)) {K : (Int32 → OB → Prop) → OB → Int32 → Int32 → Int32 → Int32 → Int32 → Int32 → Int32 → Int32 → Int32 → Prop} {x4 x5 x6 x8 x13 y : Int32}
    (hK : runB st (fun o Q => K Q o (nI (vn st.1)) (nI b) 1 x4 x5 x6 (nI (sm (fun i => ct (cl (vP st.1) (vB st.1) (vE st.1) i) (vn st.1)) (k + 1))) x8 (nI k + 1)) 1 st) :
    runB st (fun o Q => wj_b_L_kept_413 Q (K Q) o (nI (vn st.1)) (nI b) 1 x4 x5 x6 (nI (sm (fun i => ct (cl (vP st.1) (vB st.1) (vE st.1) i) (vn st.1)) k)) x8 (nI k) (if b.testBit k = true then 1 else 0) y (nI (ct (cl (vP st.1) (vB st.1) (vE st.1) k) (vn st.1))) x13) 1 st := by
  have hn := ok.1.1
  obtain ⟨g1, g2, g3, g4⟩ := ok.1.2.2.1 k hk
  have f1 := suF_le ok.1 b
  have f2 := suF_le ok.1 (W k)
  have w1 := with_ge hk hW
  have w2 := with_le hb hW
  have e1 : nI (sm (fun i => ct (cl (vP st.1) (vB st.1) (vE st.1) i) (vn st.1)) k) + nI (ct (cl (vP st.1) (vB st.1) (vE st.1) k) (vn st.1)) = nI (sm (fun i => ct (cl (vP st.1) (vB st.1) (vE st.1) i) (vn st.1)) (k + 1)) := by rw [nI_add]; rfl
  have i520 : ∀ {x11 x12 x13 : Int32}, runB st (fun o Q => wj_b_L_kept_520 Q (K Q) o (nI (vn st.1)) (nI b) 1 x4 x5 x6 (nI (sm (fun i => ct (cl (vP st.1) (vB st.1) (vE st.1) i) (vn st.1)) (k + 1))) x8 (nI k) (if b.testBit k = true then 1 else 0) x11 x12 x13) 1 st := fun {x11 x12 x13} => hK
  unfold wj_b_L_kept_413
  rw [e1]
  refine run_f (by decide) (run_bind (run_conflictsOf hk) (run_nt (lgc _) (run_bind (run_beginOf hk) (run_bind (run_endOf hk) ?_))))
  refine run_f (by rw [lgG (by omega) (by omega)]; omega) (run_bind (run_fameOf hk) ?_)
  refine run_in (by rw [show (1 : Int64) = (nI 1).toInt64 from rfl, lgl (by omega) (by omega)]; omega) (by rw [show (50 : Int64) = (nI 50).toInt64 from rfl, lgg (by omega) (by omega)]; omega) ?_
  refine run_f (by decide) (run_bind (run_bestWith hk hW) (run_bind (run_fameOf hk) (run_f (by rw [lgl (by omega) (by omega)]; omega) ?_)))
  refine run_bind (run_bestWith hk hW) (run_bind (run_bestByTable hb) (run_f (by rw [lgg (by omega) (by omega)]; omega) ?_))
  by_cases hch : b.testBit k = true
  · refine run_f (by rw [if_pos hch]; decide) (run_bind (run_bestWith hk hW) (run_bind (run_bestByTable hb) (run_nt ?_ i520)))
    rw [with_has hb hW hch]
    exact lgc _
  · exact run_t (if_neg hch) i520
theorem run_k211 (ok : OKs st) (hL : ordB st.1 L) (hg : gvn st.1 L R (vn st.1)) {k : Nat} (hk : k < (vn st.1)) {K : (Int32 → OB → Prop) → OB → Int32 → Int32 → Int32 → Int32 → Int32 → Int32 → Int32 → Int32 → Int32 → Prop} {x7 : Int32}
    (hK : runB st (fun o Q => wl_b_L_kept_305 Q (K Q) 15 o (nI (vn st.1)) (nI b) 1 (nI (su b (vF st.1) (k + 1))) (nI (su (vK st.1) (vF st.1) (k + 1))) (nI (su (vK st.1) (fun _ => 1) (k + 1))) x7 (nI (rmx R (k + 1))) (nI k) (if b.testBit k = true then 1 else 0) (if (vK st.1).testBit k = true then 1 else 0) 0 0) 1 st) :
    runB st (fun o Q => wj_b_L_kept_211 Q (K Q) o (nI (vn st.1)) (nI b) 1 (nI (su b (vF st.1) k)) (nI (su (vK st.1) (vF st.1) k)) (nI (su (vK st.1) (fun _ => 1) k)) x7 (nI (rmx R k)) (nI k) (if b.testBit k = true then 1 else 0) (if (vK st.1).testBit k = true then 1 else 0)) 1 st := by
  have hn := ok.1.1
  have u1 := suF_up b (vF st.1) k
  have u2 := suF_up (vK st.1) (vF st.1) k
  have u3 := suF_up (vK st.1) (fun _ => 1) k
  have r1 := gvn_14 ok.1 hL hg hk
  have r2 : rmx R k ≤ 14 := by
    rcases (rmx_ok R k).2 with h | ⟨j, hj, h⟩
    · omega
    · have := gvn_14 ok.1 hL hg (show j < (vn st.1) by omega)
      omega
  have r3 : rmx R (k + 1) = if rmx R k < R k + 1 then R k + 1 else rmx R k := rfl
  have i270 : ∀ {ch is y0 y1 x4 x5 x6 : Int32}, runB st (fun o Q => wl_b_L_kept_305 Q (K Q) 15 o (nI (vn st.1)) (nI b) 1 x4 x5 (y0 + y1) x7 (nI (rmx R (k + 1))) (nI k) ch is 0 0) 1 st → runB st (fun o Q => wj_b_L_kept_270 Q (K Q) o (nI (vn st.1)) (nI b) 1 x4 x5 x6 x7 (nI (rmx R k)) (nI k) ch is 0 y0 y1) 1 st := by
    intro ch is y0 y1 x4 x5 x6 h
    unfold wj_b_L_kept_270
    refine run_bind (run_roomOf hL hg hk) ?_
    by_cases hc : R k < rmx R k
    · rw [r3, if_neg (by omega)] at h
      exact run_t (by rw [lgl (by omega) (by omega)]; exact hc) h
    · rw [r3, if_pos (by omega)] at h
      refine run_f (by rw [lgl (by omega) (by omega)]; exact hc) (run_bind (run_roomOf hL hg hk) ?_)
      rw [Int32.toInt32_toInt64, nI_1]
      exact h
  have i255 : ∀ {ch y0 y1 x4 x5 : Int32}, y0 + y1 = nI (su (vK st.1) (vF st.1) (k + 1)) → runB st (fun o Q => wl_b_L_kept_305 Q (K Q) 15 o (nI (vn st.1)) (nI b) 1 x4 (nI (su (vK st.1) (vF st.1) (k + 1))) (nI (su (vK st.1) (fun _ => 1) (k + 1))) x7 (nI (rmx R (k + 1))) (nI k) ch (if (vK st.1).testBit k = true then 1 else 0) 0 0) 1 st → runB st (fun o Q => wj_b_L_kept_255 Q (K Q) o (nI (vn st.1)) (nI b) 1 x4 x5 (nI (su (vK st.1) (fun _ => 1) k)) x7 (nI (rmx R k)) (nI k) ch (if (vK st.1).testBit k = true then 1 else 0) 0 y0 y1) 1 st := by
    intro ch y0 y1 x4 x5 he h
    unfold wj_b_L_kept_255
    rw [he]
    by_cases hi : (vK st.1).testBit k = true
    · rw [if_pos hi] at u3
      refine run_f (by rw [if_pos hi]; decide) (i270 ?_)
      rw [show nI (su (vK st.1) (fun _ => 1) k) + 1 = nI (su (vK st.1) (fun _ => 1) (k + 1)) from u3]
      exact h
    · rw [if_neg hi] at u3
      refine run_t (if_neg hi) (i270 ?_)
      rw [u3]
      exact h
  have i234 : ∀ {ch y0 y1 x4 : Int32}, y0 + y1 = nI (su b (vF st.1) (k + 1)) → runB st (fun o Q => wl_b_L_kept_305 Q (K Q) 15 o (nI (vn st.1)) (nI b) 1 (nI (su b (vF st.1) (k + 1))) (nI (su (vK st.1) (vF st.1) (k + 1))) (nI (su (vK st.1) (fun _ => 1) (k + 1))) x7 (nI (rmx R (k + 1))) (nI k) ch (if (vK st.1).testBit k = true then 1 else 0) 0 0) 1 st → runB st (fun o Q => wj_b_L_kept_234 Q (K Q) o (nI (vn st.1)) (nI b) 1 x4 (nI (su (vK st.1) (vF st.1) k)) (nI (su (vK st.1) (fun _ => 1) k)) x7 (nI (rmx R k)) (nI k) ch (if (vK st.1).testBit k = true then 1 else 0) 0 y0 y1) 1 st := by
    intro ch y0 y1 x4 he h
    unfold wj_b_L_kept_234
    rw [he]
    by_cases hi : (vK st.1).testBit k = true
    · rw [if_pos hi] at u2
      refine run_f (by rw [if_pos hi]; decide) (run_bind (run_fameOf hk) ?_)
      rw [Int32.toInt32_toInt64]
      exact i255 u2 h
    · rw [if_neg hi] at u2
      exact run_t (if_neg hi) (i255 u2 h)
  unfold wj_b_L_kept_211
  by_cases hch : b.testBit k = true
  · rw [if_pos hch] at u1
    refine run_f (by rw [if_pos hch]; decide) (run_bind (run_fameOf hk) ?_)
    rw [Int32.toInt32_toInt64]
    exact i234 u1 hK
  · rw [if_neg hch] at u1
    exact run_t (if_neg hch) (i234 u1 hK)
theorem run_k168 (ok : OKs st) (hdg : dgO st.1 L R W b x mo) : ∀ m k : Nat, (vn st.1) ≤ k + m → k ≤ (vn st.1) →
    runB st (fun o Q => wl_b_L_kept_168 Q (m + 1) o (nI (vn st.1)) (nI b) 1 (nI (su b (vF st.1) k)) (nI (su (vK st.1) (vF st.1) k)) (nI (su (vK st.1) (fun _ => 1) k)) (nI (sm (fun i => ct (cl (vP st.1) (vB st.1) (vE st.1) i) (vn st.1)) k)) (nI (rmx R k)) (nI k)) 1 st := by
  have hn := ok.1.1
  obtain ⟨hL, hg, hW, hb, hx, hm⟩ := hdg
  have hM14 : (2:Nat) ^ (vn st.1) ≤ 2 ^ 14 := Nat.pow_le_pow_right (by decide) hn
  have hb14 := hb.1
  have i532 : ∀ {g : Int32}, ¬ g = 0 → runB st (fun o Q => wj_b_L_kept_532 Q o (nI (vn st.1)) (nI b) g (nI (su b (vF st.1) (vn st.1))) (nI (su (vK st.1) (vF st.1) (vn st.1))) (nI (su (vK st.1) (fun _ => 1) (vn st.1))) (nI (sm (fun i => ct (cl (vP st.1) (vB st.1) (vE st.1) i) (vn st.1)) (vn st.1))) (nI (rmx R (vn st.1))) (nI (vn st.1))) 1 st := by
    intro g hg0
    unfold wj_b_L_kept_532
    refine run_f hg0 (run_bind (run_bestByTrying hb) (run_nt rfl (run_bind run_bookedFame (run_nt rfl (run_bind run_booked ?_)))))
    refine run_nt (by rw [pcn_14 hn ok.1.2.2.2.1]) (run_bind run_conflictsByPairs (run_nt ?_ (run_bind (run_roomsByGiving hL hg hx) (run_nt ?_ ?_))))
    · show nI (prs2 (vn st.1) (vP st.1) (vB st.1) (vE st.1)) = _
      rw [z_2, pk_mul, prs_twice]
      congr 1
      omega
    · rw [mxO_un (rmx_ok R (vn st.1)) hx]
    · refine run_f ?_ run_ret
      rw [z_bit (vn st.1) (by omega), z_le (by omega) (by omega)]
      omega
  intro m
  induction m with
  | zero =>
    intro k hk hk2
    have e : k = (vn st.1) := by omega
    subst e
    unfold wl_b_L_kept_168
    exact run_t (by rw [z_le (by omega) (by omega)]; omega) (i532 (by decide))
  | succ m ih =>
    intro k hk hk2
    unfold wl_b_L_kept_168
    by_cases hkn : (vn st.1) ≤ k
    · have e : k = (vn st.1) := by omega
      subst e
      exact run_t (by rw [z_le (by omega) (by omega)]; omega) (i532 (by decide))
    · have ih := ih (k + 1) (by omega) (by omega)
      rw [← nI_1] at ih
      have hkn : k < (vn st.1) := by omega
      refine run_f (by rw [z_le (by omega) (by omega)]; omega) (run_f (by decide) ?_)
      rw [bitI (by omega) (by omega)]
      have i211 := run_k211 (b := b) ok hL hg hkn (run_k305 ok hL hg hb hkn (run_k413 (x13 := nI (vn st.1)) (y := (if (vK st.1).testBit k = true then 1 else 0)) ok hb hkn (hW k hkn) ih) 14 0 (by omega) (by omega))
      have i193 : ∀ {c : Int32}, c = (if b.testBit k = true then 1 else 0) → runB st (fun o Q => wj_b_L_kept_193 Q (fun z0 z1 z2 z3 z4 z5 z6 z7 z8 z9 => wl_b_L_kept_168 Q (m + 1) z0 z1 z2 z3 z4 z5 z6 z7 z8 z9) o (nI (vn st.1)) (nI b) 1 (nI (su b (vF st.1) k)) (nI (su (vK st.1) (vF st.1) k)) (nI (su (vK st.1) (fun _ => 1) k)) (nI (sm (fun i => ct (cl (vP st.1) (vB st.1) (vE st.1) i) (vn st.1)) k)) (nI (rmx R k)) (nI k) c) 1 st := by
        intro c hc
        subst hc
        unfold wj_b_L_kept_193
        refine run_bind (run_isBooked hkn) ?_
        by_cases hi : (vK st.1).testBit k = true
        · rw [if_pos hi] at i211 ⊢
          exact run_nt (by decide) i211
        · rw [if_neg hi] at i211 ⊢
          exact run_nf (by decide) i211
      by_cases hch : b.testBit k = true
      · exact run_nt (if_pos hch) (i193 (if_pos hch).symm)
      · exact run_nf (by rw [if_neg hch]; decide) (i193 (if_neg hch).symm)
theorem run_kept (ok : OKs st) (hs : st.2.1.length ≤ 6) : runB st (fun o Q => wb_L_kept o Q) 1 st := by
  have hn := ok.1.1
  obtain ⟨L, R, W, b, x, mo, hdg⟩ := dgO_ex st.1
  have i168 := run_k168 ok hdg 14 0 (by omega) (by omega)
  obtain ⟨hL, hg, hW, hb, hx, hm⟩ := hdg
  have f1 := suF_le ok.1 b
  have f2 := suF_le ok.1 (vK st.1)
  have f3 := bkd_le ok.1 hb
  have f4 := bkd_most ok.1 hm
  have f5 : mo ≤ 14 := by
    rcases hm.2 with h | ⟨S, -, -, h⟩
    · omega
    · have := pcn_le S 14
      omega
  have f6 := most_0 hm
  have f7 := rooms_2 hL hg hx
  have f8 : x ≤ 14 := by
    rcases hx.2 with h | ⟨k, hk, h⟩
    · omega
    · have := gvn_14 ok.1 hL hg hk
      omega
  have f9 : prs (vn st.1) (vP st.1) (vB st.1) (vE st.1) < 2 ^ 31 := by
    have h1 := prs2_le (vn st.1) (vP st.1) (vB st.1) (vE st.1)
    rw [prs_twice] at h1
    have h2 : (vn st.1) * (vn st.1) ≤ 14 * 14 := Nat.mul_le_mul hn hn
    omega
  have i128 : ∀ {y : Int32}, y = (if prs (vn st.1) (vP st.1) (vB st.1) (vE st.1) = 0 then 1 else 0) → runB st (fun o Q => wj_b_L_kept_128 Q o (nI (vn st.1)) (nI b) y) 1 st := by
    intro y hy
    unfold wj_b_L_kept_128
    refine run_bind (run_roomsBySweep hL hg hx) ?_
    by_cases h : x < 2
    · rw [if_pos (f7.mpr h)] at hy
      subst hy
      refine run_f (by rw [z_2, z_le (by omega) (by omega)]; omega) ?_
      unfold wj_b_L_kept_141
      exact run_nt rfl i168
    · rw [if_neg (fun q => h (f7.mp q))] at hy
      subst hy
      refine run_t (by rw [z_2, z_le (by omega) (by omega)]; omega) ?_
      unfold wj_b_L_kept_141
      exact run_nt rfl i168
  have i113 : runB st (fun o Q => wj_b_L_kept_113 Q o (nI (vn st.1)) (nI b) 0 0) 1 st ∧ runB st (fun o Q => wj_b_L_kept_113 Q o (nI (vn st.1)) (nI b) 1 1) 1 st := by
    have e0 : (nI (prs (vn st.1) (vP st.1) (vB st.1) (vE st.1)) = 0) = (prs (vn st.1) (vP st.1) (vB st.1) (vE st.1) = 0) := by rw [z_0, z_eq f9 (by decide)]
    have go : runB st (fun o Q => wb_X5_conflictsByPairs o (fun (r126 : Int32) (o127 : OB) => ((¬ r126 = 0 → (wj_b_L_kept_128 Q o127 (nI (vn st.1)) (nI b) (0 : Int32))) ∧ (r126 = 0 → (wj_b_L_kept_128 Q o127 (nI (vn st.1)) (nI b) (1 : Int32)))))) 1 st := by
      refine run_bind run_conflictsByPairs ?_
      by_cases h : prs (vn st.1) (vP st.1) (vB st.1) (vE st.1) = 0
      · exact run_nt (by rw [e0]; exact h) (i128 (by rw [if_pos h]))
      · exact run_nf (by rw [e0]; exact h) (i128 (by rw [if_neg h]))
    unfold wj_b_L_kept_113
    exact ⟨run_nt rfl go, run_nt rfl go⟩
  unfold wb_L_kept
  refine run_bind run_rehearsals (run_bind (run_bestChoice hb) (run_bind run_conflictsByPairs (run_bind run_conflictsBySweep (run_nt rfl ?_))))
  refine run_bind (run_roomsBySweep hL hg hx) (run_bind (run_roomsByGiving hL hg hx) (run_nt rfl ?_))
  refine run_bind (run_bestByTrying hb) (run_bind (run_bestByTable hb) (run_nt rfl ?_))
  refine run_bind run_bookedFame (run_bind (run_bestByTable hb) (run_f (by rw [z_lt (by omega) (by omega)]; omega) ?_))
  refine run_bind run_booked (run_bind (run_mostRehearsals hm) (run_f (by rw [z_lt (by omega) (by omega)]; omega) ?_))
  refine run_bind run_savedStates (run_in (by rw [show (0 : Int64) = (nI 0).toInt64 from rfl, lgl (by omega) (by omega)]; omega) (by rw [show (6 : Int64) = (nI 6).toInt64 from rfl, lgg (by omega) (by omega)]; omega) (run_f (by decide) ?_))
  refine run_in (by rw [show (0 : Int64) = (nI 0).toInt64 from rfl, lgl (by omega) (by omega)]; omega) (by rw [show (14 : Int64) = (nI 14).toInt64 from rfl, lgg (by omega) (by omega)]; omega) (run_f (by decide) ?_)
  have e1 : (nI (vn st.1) = 0) = ((vn st.1) = 0) := by rw [z_0, z_eq (by omega) (by decide)]
  have e2 : (nI mo = 0) = (mo = 0) := by rw [z_0, z_eq (by omega) (by decide)]
  by_cases h : (vn st.1) = 0
  · refine run_nt (by rw [e1]; exact h) ?_
    unfold wj_b_L_kept_101
    exact run_bind (run_mostRehearsals hm) (run_nt (by rw [e2]; exact f6.mp h) i113.2)
  · refine run_nf (by rw [e1]; exact h) ?_
    unfold wj_b_L_kept_101
    exact run_bind (run_mostRehearsals hm) (run_nf (by rw [e2]; exact fun q => h (f6.mpr q)) i113.1)
end
