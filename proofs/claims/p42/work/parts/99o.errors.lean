/-! p42: calls that must be refused, none of which changes anything -/
theorem lgc (x : Int64) : lg_cmp x x = 0 := (lg_cmp_eq _ _).mpr rfl
theorem run_chk {β : Type} {st st1 st' : ST} {w : OB → (Int64 → OB → Prop) → Prop} {x : Int64} {A B : Int64 → OB → (β → OB → Prop) → Prop} {r : β} (h1 : runB st w x st1) (h2 : runB st1 (B x) r st') :
    runB st (fun o Q => w o (fun r o1 => (¬ (lg_cmp r x) = 0 → A r o1 Q) ∧ ((lg_cmp r x) = 0 → B r o1 Q))) r st' := run_bind h1 (run_nt (lgc x) h2)
theorem noT {a b : Int32} (h : ¬ (0 ≤ a.toInt ∧ a.toInt < 96 ∧ a.toInt < b.toInt ∧ b.toInt ≤ 96)) : ¬ isT a b := h
theorem noN {n : Nat} : ¬ isN n (-1) := fun h => absurd h.1 (by decide)
theorem noF {a : Int32} (h : ¬ (1 ≤ a.toInt ∧ a.toInt ≤ 50)) : ¬ isF a := h
theorem noP {a : Int32} (h : ¬ (0 ≤ a.toInt ∧ a.toInt ≤ 8)) : ¬ isP a := h
theorem noC {a : Int32} (h : ¬ (33 ≤ a.toInt ∧ a.toInt ≤ 126)) : ¬ isC a := h
theorem no2 : ¬ isN 2 2 := fun h => absurd h.2 (by decide)
section
variable {st : ST}
theorem run_err536 {K : (Int32 → OB → Prop) → OB → Int64 → Int32 → Int32 → Int32 → Int32 → Int32 → Prop} {K2 : (Int32 → OB → Prop) → OB → Int64 → Int32 → Int32 → Int32 → Prop} {h : Int64} {n g i y j : Int32}
    (hK : runB st (fun o Q => K Q o h n 1 i y (j + 1)) 1 st) : runB st (fun o Q => wj_b_L_errors_536 Q (K Q) (K2 Q) o h n g i y j) 1 st := hK
theorem run_err468 (ok : OKs st) {K : (Int32 → OB → Prop) → OB → Int64 → Int32 → Int32 → Int32 → Prop} {h : Int64} {y : Int32} {i : Nat} (hi : i < vn st.1)
    (hK : runB st (fun o Q => K Q o h (nI (vn st.1)) 1 (nI i + 1)) 1 st) : ∀ m j : Nat, vn st.1 ≤ j + m → j ≤ vn st.1 → runB st (fun o Q => wl_b_L_errors_468 Q (K Q) (m + 1) o h (nI (vn st.1)) 1 (nI i) y (nI j)) 1 st := by
  have hn := ok.1.1
  intro m
  induction m with
  | zero =>
    intro j hj hj2
    unfold wl_b_L_errors_468
    exact run_t (by rw [z_le (by omega) (by omega)]; omega) hK
  | succ m ih =>
    intro j hj hj2
    unfold wl_b_L_errors_468
    by_cases hjn : vn st.1 ≤ j
    · exact run_t (by rw [z_le (by omega) (by omega)]; omega) hK
    · have ih := ih (j + 1) (by omega) (by omega)
      rw [← nI_1] at ih
      have hjn : j < vn st.1 := by omega
      refine run_f (by rw [z_le (by omega) (by omega)]; omega) (run_f (by decide) (run_bind (run_conflict hi hjn) (run_bind (run_conflict hjn hi) ?_)))
      refine run_nt (by rw [cl_symm]; exact lgc _) (run_bind (run_conflict hi hjn) ?_)
      cases hc : cl (vP st.1) (vB st.1) (vE st.1) i j
      · exact run_t (by decide) (run_err536 ih)
      · refine run_f (by decide) (run_bind (run_isBooked hjn) ?_)
        cases hb : (vK st.1).testBit j
        · exact run_t (by decide) (run_err536 ih)
        · refine run_f (by decide) (run_bind (run_book_state hi (fun h => ?_)) (run_nt (lgc _) (run_err536 ih)))
          have := (mk_and _ _ _).mp h.2 j hjn hc
          rw [hb] at this; cases this
theorem run_err347 (ok : OKs st) {K : (Int32 → OB → Prop) → OB → Int64 → Int32 → Int32 → Int32 → Prop} {h : Int64} {i : Nat} (hi : i < vn st.1) {g y : Int32} (hy : y = if (vK st.1).testBit i = true then 1 else 0)
    (hK : runB st (fun o Q => K Q o h (nI (vn st.1)) 1 (nI i + 1)) 1 st) : runB st (fun o Q => wj_b_L_errors_347 Q (K Q) o h (nI (vn st.1)) g (nI i) y) 1 st := by
  have hn := ok.1.1
  have hN : isN (vn st.1) (nI i) := isN_nI hi (by omega)
  have hno : ¬ isN (vn st.1) (nI (vn st.1)) := isN_no (by omega)
  have inner : ∀ {y g : Int32}, runB st (fun o Q => wj_b_L_errors_458 Q (K Q) o h (nI (vn st.1)) g (nI i) y) 1 st := fun {y g} => run_err468 ok hi hK 14 0 (by omega) (by omega)
  unfold wj_b_L_errors_347
  refine run_chk (run_move_arg hN (noT (by decide))) (run_chk (run_move_arg hN (noT (by decide))) (run_chk (run_fame_arg hN (noF (by decide))) ?_))
  refine run_bind (run_conflict hi hi) ?_
  rw [cl_irr]
  refine run_nt (by decide) (run_chk (run_conflict_index (fun h => hno h.2)) ?_)
  cases hb : (vK st.1).testBit i
  · rw [hb] at hy
    exact run_t (by rw [hy]; decide) (run_chk (run_cancel_state hi hb) inner)
  · rw [hb] at hy
    exact run_f (by rw [hy]; decide) (run_chk (run_book_state hi (fun h => by rw [hb] at h; cases h.1)) inner)
variable {L : List Nat} {R W : Nat → Nat} {b x mo : Nat}
theorem run_err555 (hdg : dgO st.1 L R W b x mo) {n i : Int32} : runB st (fun o Q => wj_b_L_errors_555 Q o (hDg st.1 st.2.2.1 R W b x mo st.2.1.length st.2.2.2.1 st.2.2.2.2) n 1 i) 1 st := by
  unfold wj_b_L_errors_555
  exact run_f (by decide) (run_bind (run_digest hdg) (run_nt (lgc _) run_ret))
theorem run_err320 (ok : OKs st) (hdg : dgO st.1 L R W b x mo) : ∀ m i : Nat, vn st.1 ≤ i + m → i ≤ vn st.1 → runB st (fun o Q => wl_b_L_errors_320 Q (m + 1) o (hDg st.1 st.2.2.1 R W b x mo st.2.1.length st.2.2.2.1 st.2.2.2.2) (nI (vn st.1)) 1 (nI i)) 1 st := by
  have hn := ok.1.1
  intro m
  induction m with
  | zero =>
    intro i hi hi2
    unfold wl_b_L_errors_320
    exact run_t (by rw [z_le (by omega) (by omega)]; omega) (run_err555 hdg)
  | succ m ih =>
    intro i hi hi2
    unfold wl_b_L_errors_320
    by_cases hin : vn st.1 ≤ i
    · exact run_t (by rw [z_le (by omega) (by omega)]; omega) (run_err555 hdg)
    · have ih := ih (i + 1) (by omega) (by omega)
      rw [← nI_1] at ih
      have hin : i < vn st.1 := by omega
      refine run_f (by rw [z_le (by omega) (by omega)]; omega) (run_f (by decide) (run_bind (run_isBooked hin) ?_))
      cases hb : (vK st.1).testBit i
      · exact run_nf (by decide) (run_err347 ok hin (by rw [hb]; rfl) ih)
      · exact run_nt (by decide) (run_err347 ok hin (by rw [hb]; rfl) ih)
theorem run_err88 (ok : OKs st) (hdg : dgO st.1 L R W b x mo) : runB st (fun o Q => wj_b_L_errors_88 Q o (hDg st.1 st.2.2.1 R W b x mo st.2.1.length st.2.2.2.1 st.2.2.2.2) (nI (vn st.1))) 1 st := by
  have hn := ok.1.1
  have hno : ¬ isN (vn st.1) (nI (vn st.1)) := isN_no (by omega)
  unfold wj_b_L_errors_88
  refine run_chk (run_strike_index hno) (run_chk (run_move_index hno) (run_chk (run_fame_index hno) (run_chk (run_pause_arg (noP (by decide))) (run_chk (run_pause_arg (noP (by decide))) ?_))))
  refine run_chk (run_book_index hno) (run_chk (run_cancel_index noN) (run_chk (run_append_arg (noC (by decide))) (run_chk (run_keep_arg no2) (run_chk (run_back_arg noN) ?_))))
  refine run_chk (run_beginOf_index hno) (run_chk (run_endOf_index noN) (run_chk (run_fameOf_index hno) (run_chk (run_isBooked_index hno) (run_chk (run_conflict_index (fun h => hno h.1)) ?_))))
  refine run_chk (run_conflictsOf_index hno) (run_chk (run_roomOf_index noN) (run_chk (run_bestWith_index hno) ?_))
  exact run_err320 ok hdg 14 0 (by omega) (by omega)
theorem run_errors (ok : OKs st) : runB st (fun o Q => wb_L_errors o Q) 1 st := by
  have hn := ok.1.1
  obtain ⟨L, R, W, b, x, mo, hdg⟩ := dgO_ex st.1
  unfold wb_L_errors
  refine run_bind (run_digest hdg) (run_bind run_rehearsals ?_)
  refine run_chk (run_add_arg (fun h => noT (by decide) h.1)) (run_chk (run_add_arg (fun h => noT (by decide) h.1)) (run_chk (run_add_arg (fun h => noT (by decide) h.1)) (run_chk (run_add_arg (fun h => noF (by decide) h.2)) ?_)))
  by_cases h14 : vn st.1 < 14
  · exact run_t (by rw [z_14, z_lt (by omega) (by omega)]; exact h14) (run_err88 ok hdg)
  · exact run_f (by rw [z_14, z_lt (by omega) (by omega)]; exact h14) (run_chk (run_add_state (isT_nI (b := 0) (e := 1) (by decide) (by decide)) (isF_nI (f := 1) (by decide) (by decide)) h14) (run_err88 ok hdg))
end
