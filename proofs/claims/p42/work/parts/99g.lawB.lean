set_option maxRecDepth 100000 in
theorem k_L_errors_c17 : Cond.constantLong RL 17 (-9000000000000000002) ∈ wsL_errors := by decide +kernel
set_option maxRecDepth 100000 in
theorem k_L_errors_c21 : Cond.constantLong RL 21 (-9000000000000000003) ∈ wsL_errors := by decide +kernel
set_option maxRecDepth 100000 in
theorem k_L_errors_c29 : Cond.constantLong RL 29 (-9000000000000000001) ∈ wsL_errors := by decide +kernel
set_option maxHeartbeats 16000000 in
set_option maxRecDepth 100000 in
theorem cb_L_errors (l : Launch) (hst : l.stackTraces = false) (G : mG) (a : Nat → Nat) (o : OB) {Q : Int32 → OB → Prop} (hw : wb_L_errors o Q) (sz : Nat) :
    Met l yL_errors wsL_errors ({ frames := 23, cells := 2290, slots := 13740, locals := 591 } : Room) (va_Pc [.ref (a 0)] (mPre G (wOB G a o) sz)) (va_Qi (fun (r : Int32) (u : OB) => (r = 0 ∨ r = 1) ∧ Q r u) (mBk G (va_A (wOB G a o) sz) (fun (u : OB) => (wOB G a u))) (va_A (wOB G a o) sz)) 2290 13740 (va_A (wOB G a o) sz) := by
  refine ms_i (cc := cL_errors) (maxL := 8) (ret := some .boolean) (post := (fun (r : Int32) (u : OB) => (r = 0 ∨ r = 1) ∧ Q r u)) (w1 := (fun (u : OB) => (wOB G a u))) (by decide) rfl (Nat.le_of_ble_eq_true rfl) ?_ sz
  intro p e s m below meth c A ls H locs hx hb hr hml hown hts hlocks hK hG hP hD hS hA hl
  have hown : s.vm.findClass RL = some m.cls := hown
  have hl : lv_has ls 8 [(0, .ref (a 0))] := hl
  have J555 : ∀ (k z : Nat) (o : OB) (x1 : Int64) (x3 : Int32) (x4 : Int32) (x5 : Int32) (H : Heap) (locs : List Loc) (ls : Array Slot), k + (0) ≤ 2290 → z + 6 * (0) ≤ 13740 → (x4 = 0 ∨ x4 = 1) → va_P (gD G) vwCl (wOB G a o) H → va_D A (wOB G a o) → va_S A s.heap H locs → lv_has ls 8 [(0, .ref (a 0)), (1, .long x1), (3, .int x3), (4, .int x4), (5, .int x5)] → wj_b_L_errors_555 Q o x1 x3 x4 x5 → W p l e ({ frames := 23, cells := 2290, slots := 13740, locals := 591 } : Room) s m ([.ref (a 0)] : List Value).toArray below meth c H locs k z (MQ below (va_Qi (fun (r : Int32) (u : OB) => (r = 0 ∨ r = 1) ∧ Q r u) (mBk G A (fun (u : OB) => (wOB G a u))) A) ([.ref (a 0)] : List Value).toArray s 2290 13740 A) (F0 m 555 ls []) := by
    intro k z o x1 x3 x4 x5 H locs ls hbk hbz hz_x4 hP hD hS hl hw
    unfold wj_b_L_errors_555 at hw
    refine lv_iload hx hb dL_errors_555 (lv_at hl 3 rfl) ?_
    refine lv_if_eq (tgt := 573) hx hb dL_errors_557 (by decide) (fun cd9 => ?_) (fun cd9 => ?_)
    · have hw := hw.1 cd9
      refine lv_iconst (v := 0) hx hb dL_errors_573 (by decide) ?_
      refine W.widen (k := 2290) (n := 13740) (by omega) (by omega) ?_
      exact fin_z o hx hb hr (nz (Or.inl rfl)) hlocks hK hS hP hD ⟨(Or.inl rfl), hw⟩ dL_errors_574
    · have hw := hw.2 cd9
      refine lv_aload_n hx hb dL_errors_560 rfl (lv_at hl 0 rfl) ?_
      refine kb_X5_digest a o  hw ⟨hx, hb, hml, hown, hts⟩ (cwV 0 hts gL_errors_X5_digest rfl rfl rfl (by decide +kernel) ⟨Nat.le_of_ble_eq_true rfl, Nat.le_of_ble_eq_true rfl⟩) hK hG hP hD hS hA hl.1 (Nat.le_of_ble_eq_true rfl) dL_errors_561 ⟨by show _ ≤ 2290; omega, by show _ ≤ 13740; omega⟩ (fun r10 o11 H locs hw hP hD hS => ?_)
      refine lv_lload_n hx hb dL_errors_564 rfl (lv_at hl 1 rfl) ?_
      refine W.lcmp hx hb dL_errors_565 ?_
      refine lv_if_ne (tgt := 573) hx hb dL_errors_566 (by decide) (fun cd12 => ?_) (fun cd12 => ?_)
      · have hw := hw.1 cd12
        refine lv_iconst (v := 0) hx hb dL_errors_573 (by decide) ?_
        refine W.widen (k := 2290) (n := 13740) (by omega) (by omega) ?_
        exact fin_z o11 hx hb hr (nz (Or.inl rfl)) hlocks hK hS hP hD ⟨(Or.inl rfl), hw⟩ dL_errors_574
      · have hw := hw.2 cd12
        refine lv_iconst (v := 1) hx hb dL_errors_569 (by decide) ?_
        refine lv_goto (tgt := 574) hx hb dL_errors_570 (by decide) ?_
        refine W.widen (k := 2290) (n := 13740) (by omega) (by omega) ?_
        exact fin_z o11 hx hb hr (nz (Or.inr rfl)) hlocks hK hS hP hD ⟨(Or.inr rfl), hw⟩ dL_errors_574
  have J536 : ∀ (k468 : OB → Int64 → Int32 → Int32 → Int32 → Int32 → Int32 → Prop) (nn468 : Nat) (hk468 : ∀ (k z : Nat) (o : OB) (x1 : Int64) (x3 : Int32) (x4 : Int32) (x5 : Int32) (x6 : Int32) (x7 : Int32) (H : Heap) (locs : List Loc) (ls : Array Slot), k + nn468 ≤ 2290 → z + 6 * nn468 ≤ 13740 → (x4 = 0 ∨ x4 = 1) → (x6 = 0 ∨ x6 = 1) → va_P (gD G) vwCl (wOB G a o) H → va_D A (wOB G a o) → va_S A s.heap H locs → lv_has ls 8 [(0, .ref (a 0)), (1, .long x1), (3, .int x3), (4, .int x4), (5, .int x5), (6, .int x6), (7, .int x7)] → k468 o x1 x3 x4 x5 x6 x7 → W p l e ({ frames := 23, cells := 2290, slots := 13740, locals := 591 } : Room) s m ([.ref (a 0)] : List Value).toArray below meth c H locs k z (MQ below (va_Qi (fun (r : Int32) (u : OB) => (r = 0 ∨ r = 1) ∧ Q r u) (mBk G A (fun (u : OB) => (wOB G a u))) A) ([.ref (a 0)] : List Value).toArray s 2290 13740 A) (F0 m 468 ls [])) (k320 : OB → Int64 → Int32 → Int32 → Int32 → Prop) (nn320 : Nat) (hk320 : ∀ (k z : Nat) (o : OB) (x1 : Int64) (x3 : Int32) (x4 : Int32) (x5 : Int32) (H : Heap) (locs : List Loc) (ls : Array Slot), k + nn320 ≤ 2290 → z + 6 * nn320 ≤ 13740 → (x4 = 0 ∨ x4 = 1) → va_P (gD G) vwCl (wOB G a o) H → va_D A (wOB G a o) → va_S A s.heap H locs → lv_has ls 8 [(0, .ref (a 0)), (1, .long x1), (3, .int x3), (4, .int x4), (5, .int x5)] → k320 o x1 x3 x4 x5 → W p l e ({ frames := 23, cells := 2290, slots := 13740, locals := 591 } : Room) s m ([.ref (a 0)] : List Value).toArray below meth c H locs k z (MQ below (va_Qi (fun (r : Int32) (u : OB) => (r = 0 ∨ r = 1) ∧ Q r u) (mBk G A (fun (u : OB) => (wOB G a u))) A) ([.ref (a 0)] : List Value).toArray s 2290 13740 A) (F0 m 320 ls [])) (k z : Nat) (o : OB) (x1 : Int64) (x3 : Int32) (x4 : Int32) (x5 : Int32) (x6 : Int32) (x7 : Int32) (H : Heap) (locs : List Loc) (ls : Array Slot), k + (0 + nn468) ≤ 2290 → z + 6 * (0 + nn468) ≤ 13740 → (x4 = 0 ∨ x4 = 1) → (x6 = 0 ∨ x6 = 1) → va_P (gD G) vwCl (wOB G a o) H → va_D A (wOB G a o) → va_S A s.heap H locs → lv_has ls 8 [(0, .ref (a 0)), (1, .long x1), (3, .int x3), (4, .int x4), (5, .int x5), (6, .int x6), (7, .int x7)] → wj_b_L_errors_536 Q k468 k320 o x1 x3 x4 x5 x6 x7 → W p l e ({ frames := 23, cells := 2290, slots := 13740, locals := 591 } : Room) s m ([.ref (a 0)] : List Value).toArray below meth c H locs k z (MQ below (va_Qi (fun (r : Int32) (u : OB) => (r = 0 ∨ r = 1) ∧ Q r u) (mBk G A (fun (u : OB) => (wOB G a u))) A) ([.ref (a 0)] : List Value).toArray s 2290 13740 A) (F0 m 536 ls []) := by
    intro k468 nn468 hk468 k320 nn320 hk320 k z o x1 x3 x4 x5 x6 x7 H locs ls hbk hbz hz_x4 hz_x6 hP hD hS hl hw
    unfold wj_b_L_errors_536 at hw
    refine lv_iconst (v := 1) hx hb dL_errors_536 (by decide) ?_
    refine lv_goto (tgt := 541) hx hb dL_errors_537 (by decide) ?_
    refine lv_istore (lv' := [(4, .int (1 : Int32)), (0, .ref (a 0)), (1, .long x1), (3, .int x3), (5, .int x5), (6, .int x6), (7, .int x7)]) hx hb dL_errors_541 hl (by decide) rfl (fun ls hl => ?_)
    refine lv_iinc (v := (x7 + 1)) (lv' := [(7, .int (x7 + 1)), (4, .int (1 : Int32)), (0, .ref (a 0)), (1, .long x1), (3, .int x3), (5, .int x5), (6, .int x6)]) hx hb dL_errors_543 hl (k := 6) rfl rfl (by decide) rfl (fun ls hl => ?_)
    refine lv_goto (tgt := 468) hx hb dL_errors_546 (by decide) ?_
    exact hk468 _ _ o x1 x3 (1 : Int32) x5 x6 (x7 + 1) _ _ _ (by omega) (by omega) (Or.inr rfl) hz_x6 hP hD hS (lv_sub hl [2, 3, 4, 1, 5, 6, 0] rfl) hw
  have J468 : ∀ (k320 : OB → Int64 → Int32 → Int32 → Int32 → Prop) (nn320 : Nat) (hk320 : ∀ (k z : Nat) (o : OB) (x1 : Int64) (x3 : Int32) (x4 : Int32) (x5 : Int32) (H : Heap) (locs : List Loc) (ls : Array Slot), k + nn320 ≤ 2290 → z + 6 * nn320 ≤ 13740 → (x4 = 0 ∨ x4 = 1) → va_P (gD G) vwCl (wOB G a o) H → va_D A (wOB G a o) → va_S A s.heap H locs → lv_has ls 8 [(0, .ref (a 0)), (1, .long x1), (3, .int x3), (4, .int x4), (5, .int x5)] → k320 o x1 x3 x4 x5 → W p l e ({ frames := 23, cells := 2290, slots := 13740, locals := 591 } : Room) s m ([.ref (a 0)] : List Value).toArray below meth c H locs k z (MQ below (va_Qi (fun (r : Int32) (u : OB) => (r = 0 ∨ r = 1) ∧ Q r u) (mBk G A (fun (u : OB) => (wOB G a u))) A) ([.ref (a 0)] : List Value).toArray s 2290 13740 A) (F0 m 320 ls [])) (n : Nat) (k z : Nat) (o : OB) (x1 : Int64) (x3 : Int32) (x4 : Int32) (x5 : Int32) (x6 : Int32) (x7 : Int32) (H : Heap) (locs : List Loc) (ls : Array Slot), k + (n * 9 + 0 + nn320) ≤ 2290 → z + 6 * (n * 9 + 0 + nn320) ≤ 13740 → (x4 = 0 ∨ x4 = 1) → (x6 = 0 ∨ x6 = 1) → va_P (gD G) vwCl (wOB G a o) H → va_D A (wOB G a o) → va_S A s.heap H locs → lv_has ls 8 [(0, .ref (a 0)), (1, .long x1), (3, .int x3), (4, .int x4), (5, .int x5), (6, .int x6), (7, .int x7)] → wl_b_L_errors_468 Q k320 n o x1 x3 x4 x5 x6 x7 → W p l e ({ frames := 23, cells := 2290, slots := 13740, locals := 591 } : Room) s m ([.ref (a 0)] : List Value).toArray below meth c H locs k z (MQ below (va_Qi (fun (r : Int32) (u : OB) => (r = 0 ∨ r = 1) ∧ Q r u) (mBk G A (fun (u : OB) => (wOB G a u))) A) ([.ref (a 0)] : List Value).toArray s 2290 13740 A) (F0 m 468 ls []) := by
    intro k320 nn320 hk320 n
    induction n with
    | zero => intro k z o x1 x3 x4 x5 x6 x7 H locs ls hbk hbz hz_x4 hz_x6 hP hD hS hl hw; exact False.elim hw
    | succ n ih =>
      intro k z o x1 x3 x4 x5 x6 x7 H locs ls hbk hbz hz_x4 hz_x6 hP hD hS hl hw
      rw [wl_b_L_errors_468] at hw
      refine lv_iload hx hb dL_errors_468 (lv_at hl 6 rfl) ?_
      refine lv_iload_n hx hb dL_errors_470 rfl (lv_at hl 2 rfl) ?_
      refine lv_icmp_ge (tgt := 549) hx hb dL_errors_471 (by decide) (fun cd20 => ?_) (fun cd20 => ?_)
      · have hw := hw.1 cd20
        refine lv_iinc (v := (x5 + 1)) (lv' := [(5, .int (x5 + 1)), (0, .ref (a 0)), (1, .long x1), (3, .int x3), (4, .int x4), (6, .int x6), (7, .int x7)]) hx hb dL_errors_549 hl (k := 4) rfl rfl (by decide) rfl (fun ls hl => ?_)
        refine lv_goto (tgt := 320) hx hb dL_errors_552 (by decide) ?_
        exact hk320 _ _ o x1 x3 x4 (x5 + 1) _ _ _ (by omega) (by omega) hz_x4 hP hD hS (lv_sub hl [1, 2, 3, 4, 0] rfl) hw
      · have hw := hw.2 cd20
        refine lv_iload hx hb dL_errors_474 (lv_at hl 3 rfl) ?_
        refine lv_if_eq (tgt := 549) hx hb dL_errors_476 (by decide) (fun cd21 => ?_) (fun cd21 => ?_)
        · have hw := hw.1 cd21
          refine lv_iinc (v := (x5 + 1)) (lv' := [(5, .int (x5 + 1)), (0, .ref (a 0)), (1, .long x1), (3, .int x3), (4, .int x4), (6, .int x6), (7, .int x7)]) hx hb dL_errors_549 hl (k := 4) rfl rfl (by decide) rfl (fun ls hl => ?_)
          refine lv_goto (tgt := 320) hx hb dL_errors_552 (by decide) ?_
          exact hk320 _ _ o x1 x3 x4 (x5 + 1) _ _ _ (by omega) (by omega) hz_x4 hP hD hS (lv_sub hl [1, 2, 3, 4, 0] rfl) hw
        · have hw := hw.2 cd21
          refine lv_aload_n hx hb dL_errors_479 rfl (lv_at hl 0 rfl) ?_
          refine lv_iload hx hb dL_errors_480 (lv_at hl 4 rfl) ?_
          refine lv_iload hx hb dL_errors_482 (lv_at hl 6 rfl) ?_
          refine kI_l (kr_SW [] ⟨hx, hb, hml, hown, hts⟩ (cb_L_conflict l hst G a o x5 x7 hw H.size) (vx_cwSW 3 hts gL_errors_L_conflict rfl rfl rfl (by decide +kernel) ⟨Nat.le_of_ble_eq_true rfl, Nat.le_of_ble_eq_true rfl⟩) hK hG hP hD hS hA (List.range 51) nd51 (rg51 G a _) rfl hl.1 rfl (Nat.le_of_ble_eq_true rfl) dL_errors_484 ⟨by show _ ≤ 2290; omega, by show _ ≤ 13740; omega⟩) hP hD hS hA (fun r22 o23 H locs hw hP hD hS => ?_)
          refine lv_aload_n hx hb dL_errors_487 rfl (lv_at hl 0 rfl) ?_
          refine lv_iload hx hb dL_errors_488 (lv_at hl 6 rfl) ?_
          refine lv_iload hx hb dL_errors_490 (lv_at hl 4 rfl) ?_
          refine kI_l (kr_SW [.long r22] ⟨hx, hb, hml, hown, hts⟩ (cb_L_conflict l hst G a o23 x7 x5 hw H.size) (vx_cwSW 3 hts gL_errors_L_conflict rfl rfl rfl (by decide +kernel) ⟨Nat.le_of_ble_eq_true rfl, Nat.le_of_ble_eq_true rfl⟩) hK hG hP hD hS hA (List.range 51) nd51 (rg51 G a _) rfl hl.1 rfl (Nat.le_of_ble_eq_true rfl) dL_errors_492 ⟨by show _ ≤ 2290; omega, by show _ ≤ 13740; omega⟩) hP hD hS hA (fun r24 o25 H locs hw hP hD hS => ?_)
          refine W.lcmp hx hb dL_errors_495 ?_
          refine lv_if_ne (tgt := 540) hx hb dL_errors_496 (by decide) (fun cd26 => ?_) (fun cd26 => ?_)
          · have hw := hw.1 cd26
            refine lv_iconst (v := 0) hx hb dL_errors_540 (by decide) ?_
            refine lv_istore (lv' := [(4, .int (0 : Int32)), (0, .ref (a 0)), (1, .long x1), (3, .int x3), (5, .int x5), (6, .int x6), (7, .int x7)]) hx hb dL_errors_541 hl (by decide) rfl (fun ls hl => ?_)
            refine lv_iinc (v := (x7 + 1)) (lv' := [(7, .int (x7 + 1)), (4, .int (0 : Int32)), (0, .ref (a 0)), (1, .long x1), (3, .int x3), (5, .int x5), (6, .int x6)]) hx hb dL_errors_543 hl (k := 6) rfl rfl (by decide) rfl (fun ls hl => ?_)
            refine lv_goto (tgt := 468) hx hb dL_errors_546 (by decide) ?_
            exact ih _ _ o25 x1 x3 (0 : Int32) x5 x6 (x7 + 1) _ _ _ (by omega) (by omega) (Or.inl rfl) hz_x6 hP hD hS (lv_sub hl [2, 3, 4, 1, 5, 6, 0] rfl) hw
          · have hw := hw.2 cd26
            refine lv_aload_n hx hb dL_errors_499 rfl (lv_at hl 0 rfl) ?_
            refine lv_iload hx hb dL_errors_500 (lv_at hl 4 rfl) ?_
            refine lv_iload hx hb dL_errors_502 (lv_at hl 6 rfl) ?_
            refine kI_l (kr_SW [] ⟨hx, hb, hml, hown, hts⟩ (cb_L_conflict l hst G a o25 x5 x7 hw H.size) (vx_cwSW 3 hts gL_errors_L_conflict rfl rfl rfl (by decide +kernel) ⟨Nat.le_of_ble_eq_true rfl, Nat.le_of_ble_eq_true rfl⟩) hK hG hP hD hS hA (List.range 51) nd51 (rg51 G a _) rfl hl.1 rfl (Nat.le_of_ble_eq_true rfl) dL_errors_504 ⟨by show _ ≤ 2290; omega, by show _ ≤ 13740; omega⟩) hP hD hS hA (fun r27 o28 H locs hw hP hD hS => ?_)
            refine lv_lconst (v := 0) hx hb dL_errors_507 (by decide) ?_
            refine W.lcmp hx hb dL_errors_508 ?_
            refine lv_if_eq (tgt := 536) hx hb dL_errors_509 (by decide) (fun cd29 => ?_) (fun cd29 => ?_)
            · have hw := hw.1 cd29
              exact J536 (fun (z0 : OB) (z1 : Int64) (z2 : Int32) (z3 : Int32) (z4 : Int32) (z5 : Int32) (z6 : Int32) => wl_b_L_errors_468 Q k320 n z0 z1 z2 z3 z4 z5 z6) (n * 9 + 0 + nn320) ih k320 nn320 hk320 _ _ o28 x1 x3 x4 x5 x6 x7 _ _ _ (by omega) (by omega) hz_x4 hz_x6 hP hD hS hl hw
            · have hw := hw.2 cd29
              refine lv_aload_n hx hb dL_errors_512 rfl (lv_at hl 0 rfl) ?_
              refine lv_iload hx hb dL_errors_513 (lv_at hl 6 rfl) ?_
              refine kI_l (kr_SW [] ⟨hx, hb, hml, hown, hts⟩ (cb_L_isBooked l hst G a o28 x7 hw H.size) (vx_cwSW 2 hts gL_errors_L_isBooked rfl rfl rfl (by decide +kernel) ⟨Nat.le_of_ble_eq_true rfl, Nat.le_of_ble_eq_true rfl⟩) hK hG hP hD hS hA (List.range 51) nd51 (rg51 G a _) rfl hl.1 rfl (Nat.le_of_ble_eq_true rfl) dL_errors_515 ⟨by show _ ≤ 2290; omega, by show _ ≤ 13740; omega⟩) hP hD hS hA (fun r30 o31 H locs hw hP hD hS => ?_)
              refine lv_lconst (v := 0) hx hb dL_errors_518 (by decide) ?_
              refine W.lcmp hx hb dL_errors_519 ?_
              refine lv_if_eq (tgt := 536) hx hb dL_errors_520 (by decide) (fun cd32 => ?_) (fun cd32 => ?_)
              · have hw := hw.1 cd32
                exact J536 (fun (z0 : OB) (z1 : Int64) (z2 : Int32) (z3 : Int32) (z4 : Int32) (z5 : Int32) (z6 : Int32) => wl_b_L_errors_468 Q k320 n z0 z1 z2 z3 z4 z5 z6) (n * 9 + 0 + nn320) ih k320 nn320 hk320 _ _ o31 x1 x3 x4 x5 x6 x7 _ _ _ (by omega) (by omega) hz_x4 hz_x6 hP hD hS hl hw
              · have hw := hw.2 cd32
                refine lv_aload_n hx hb dL_errors_523 rfl (lv_at hl 0 rfl) ?_
                refine lv_iload hx hb dL_errors_524 (lv_at hl 4 rfl) ?_
                refine kI_l (kr_SW [] ⟨hx, hb, hml, hown, hts⟩ (cb_L_book l hst G a o31 x5 hw H.size) (vx_cwSW 2 hts gL_errors_L_book rfl rfl rfl (by decide +kernel) ⟨Nat.le_of_ble_eq_true rfl, Nat.le_of_ble_eq_true rfl⟩) hK hG hP hD hS hA (List.range 51) nd51 (rg51 G a _) rfl hl.1 rfl (Nat.le_of_ble_eq_true rfl) dL_errors_526 ⟨by show _ ≤ 2290; omega, by show _ ≤ 13740; omega⟩) hP hD hS hA (fun r33 o34 H locs hw hP hD hS => ?_)
                refine lv_ldc2 (v := -9000000000000000003) hx hb hown (hts _ k_L_errors_c21) dL_errors_529 ?_
                refine W.lcmp hx hb dL_errors_532 ?_
                refine lv_if_ne (tgt := 540) hx hb dL_errors_533 (by decide) (fun cd35 => ?_) (fun cd35 => ?_)
                · have hw := hw.1 cd35
                  refine lv_iconst (v := 0) hx hb dL_errors_540 (by decide) ?_
                  refine lv_istore (lv' := [(4, .int (0 : Int32)), (0, .ref (a 0)), (1, .long x1), (3, .int x3), (5, .int x5), (6, .int x6), (7, .int x7)]) hx hb dL_errors_541 hl (by decide) rfl (fun ls hl => ?_)
                  refine lv_iinc (v := (x7 + 1)) (lv' := [(7, .int (x7 + 1)), (4, .int (0 : Int32)), (0, .ref (a 0)), (1, .long x1), (3, .int x3), (5, .int x5), (6, .int x6)]) hx hb dL_errors_543 hl (k := 6) rfl rfl (by decide) rfl (fun ls hl => ?_)
                  refine lv_goto (tgt := 468) hx hb dL_errors_546 (by decide) ?_
                  exact ih _ _ o34 x1 x3 (0 : Int32) x5 x6 (x7 + 1) _ _ _ (by omega) (by omega) (Or.inl rfl) hz_x6 hP hD hS (lv_sub hl [2, 3, 4, 1, 5, 6, 0] rfl) hw
                · have hw := hw.2 cd35
                  exact J536 (fun (z0 : OB) (z1 : Int64) (z2 : Int32) (z3 : Int32) (z4 : Int32) (z5 : Int32) (z6 : Int32) => wl_b_L_errors_468 Q k320 n z0 z1 z2 z3 z4 z5 z6) (n * 9 + 0 + nn320) ih k320 nn320 hk320 _ _ o34 x1 x3 x4 x5 x6 x7 _ _ _ (by omega) (by omega) hz_x4 hz_x6 hP hD hS hl hw
  have J458 : ∀ (k320 : OB → Int64 → Int32 → Int32 → Int32 → Prop) (nn320 : Nat) (hk320 : ∀ (k z : Nat) (o : OB) (x1 : Int64) (x3 : Int32) (x4 : Int32) (x5 : Int32) (H : Heap) (locs : List Loc) (ls : Array Slot), k + nn320 ≤ 2290 → z + 6 * nn320 ≤ 13740 → (x4 = 0 ∨ x4 = 1) → va_P (gD G) vwCl (wOB G a o) H → va_D A (wOB G a o) → va_S A s.heap H locs → lv_has ls 8 [(0, .ref (a 0)), (1, .long x1), (3, .int x3), (4, .int x4), (5, .int x5)] → k320 o x1 x3 x4 x5 → W p l e ({ frames := 23, cells := 2290, slots := 13740, locals := 591 } : Room) s m ([.ref (a 0)] : List Value).toArray below meth c H locs k z (MQ below (va_Qi (fun (r : Int32) (u : OB) => (r = 0 ∨ r = 1) ∧ Q r u) (mBk G A (fun (u : OB) => (wOB G a u))) A) ([.ref (a 0)] : List Value).toArray s 2290 13740 A) (F0 m 320 ls [])) (k z : Nat) (o : OB) (x1 : Int64) (x3 : Int32) (x4 : Int32) (x5 : Int32) (x6 : Int32) (H : Heap) (locs : List Loc) (ls : Array Slot), k + (135 + nn320) ≤ 2290 → z + 6 * (135 + nn320) ≤ 13740 → (x4 = 0 ∨ x4 = 1) → (x6 = 0 ∨ x6 = 1) → va_P (gD G) vwCl (wOB G a o) H → va_D A (wOB G a o) → va_S A s.heap H locs → lv_has ls 8 [(0, .ref (a 0)), (1, .long x1), (3, .int x3), (4, .int x4), (5, .int x5), (6, .int x6)] → wj_b_L_errors_458 Q k320 o x1 x3 x4 x5 x6 → W p l e ({ frames := 23, cells := 2290, slots := 13740, locals := 591 } : Room) s m ([.ref (a 0)] : List Value).toArray below meth c H locs k z (MQ below (va_Qi (fun (r : Int32) (u : OB) => (r = 0 ∨ r = 1) ∧ Q r u) (mBk G A (fun (u : OB) => (wOB G a u))) A) ([.ref (a 0)] : List Value).toArray s 2290 13740 A) (F0 m 458 ls []) := by
    intro k320 nn320 hk320 k z o x1 x3 x4 x5 x6 H locs ls hbk hbz hz_x4 hz_x6 hP hD hS hl hw
    unfold wj_b_L_errors_458 at hw
    refine lv_iconst (v := 1) hx hb dL_errors_458 (by decide) ?_
    refine lv_goto (tgt := 463) hx hb dL_errors_459 (by decide) ?_
    refine lv_istore (lv' := [(4, .int (1 : Int32)), (0, .ref (a 0)), (1, .long x1), (3, .int x3), (5, .int x5), (6, .int x6)]) hx hb dL_errors_463 hl (by decide) rfl (fun ls hl => ?_)
    refine lv_iconst (v := 0) hx hb dL_errors_465 (by decide) ?_
    refine lv_istore (lv' := [(7, .int (0 : Int32)), (4, .int (1 : Int32)), (0, .ref (a 0)), (1, .long x1), (3, .int x3), (5, .int x5), (6, .int x6)]) hx hb dL_errors_466 hl (by decide) rfl (fun ls hl => ?_)
    exact J468 k320 nn320 hk320 15 _ _ o x1 x3 (1 : Int32) x5 x6 (0 : Int32) _ _ _ (by omega) (by omega) (Or.inr rfl) hz_x6 hP hD hS (lv_sub hl [2, 3, 4, 1, 5, 6, 0] rfl) hw
  have J347 : ∀ (k320 : OB → Int64 → Int32 → Int32 → Int32 → Prop) (nn320 : Nat) (hk320 : ∀ (k z : Nat) (o : OB) (x1 : Int64) (x3 : Int32) (x4 : Int32) (x5 : Int32) (H : Heap) (locs : List Loc) (ls : Array Slot), k + nn320 ≤ 2290 → z + 6 * nn320 ≤ 13740 → (x4 = 0 ∨ x4 = 1) → va_P (gD G) vwCl (wOB G a o) H → va_D A (wOB G a o) → va_S A s.heap H locs → lv_has ls 8 [(0, .ref (a 0)), (1, .long x1), (3, .int x3), (4, .int x4), (5, .int x5)] → k320 o x1 x3 x4 x5 → W p l e ({ frames := 23, cells := 2290, slots := 13740, locals := 591 } : Room) s m ([.ref (a 0)] : List Value).toArray below meth c H locs k z (MQ below (va_Qi (fun (r : Int32) (u : OB) => (r = 0 ∨ r = 1) ∧ Q r u) (mBk G A (fun (u : OB) => (wOB G a u))) A) ([.ref (a 0)] : List Value).toArray s 2290 13740 A) (F0 m 320 ls [])) (k z : Nat) (o : OB) (x1 : Int64) (x3 : Int32) (x4 : Int32) (x5 : Int32) (y0 : Int32) (H : Heap) (locs : List Loc) (ls : Array Slot), k + (149 + nn320) ≤ 2290 → z + 6 * (149 + nn320) ≤ 13740 → (x4 = 0 ∨ x4 = 1) → (y0 = 0 ∨ y0 = 1) → va_P (gD G) vwCl (wOB G a o) H → va_D A (wOB G a o) → va_S A s.heap H locs → lv_has ls 8 [(0, .ref (a 0)), (1, .long x1), (3, .int x3), (4, .int x4), (5, .int x5)] → wj_b_L_errors_347 Q k320 o x1 x3 x4 x5 y0 → W p l e ({ frames := 23, cells := 2290, slots := 13740, locals := 591 } : Room) s m ([.ref (a 0)] : List Value).toArray below meth c H locs k z (MQ below (va_Qi (fun (r : Int32) (u : OB) => (r = 0 ∨ r = 1) ∧ Q r u) (mBk G A (fun (u : OB) => (wOB G a u))) A) ([.ref (a 0)] : List Value).toArray s 2290 13740 A) (F0 m 347 ls [.int y0]) := by
    intro k320 nn320 hk320 k z o x1 x3 x4 x5 y0 H locs ls hbk hbz hz_x4 hz_y0 hP hD hS hl hw
    unfold wj_b_L_errors_347 at hw
    refine lv_istore (lv' := [(6, .int y0), (0, .ref (a 0)), (1, .long x1), (3, .int x3), (4, .int x4), (5, .int x5)]) hx hb dL_errors_347 hl (by decide) rfl (fun ls hl => ?_)
    refine lv_aload_n hx hb dL_errors_349 rfl (lv_at hl 1 rfl) ?_
    refine lv_iload hx hb dL_errors_350 (lv_at hl 5 rfl) ?_
    refine lv_bipush (v := 9) hx hb dL_errors_352 (by decide) ?_
    refine lv_bipush (v := 9) hx hb dL_errors_354 (by decide) ?_
    refine kI_l (kr_SW [] ⟨hx, hb, hml, hown, hts⟩ (cb_L_move l hst G a o x5 (9 : Int32) (9 : Int32) hw H.size) (vx_cwSW 4 hts gL_errors_L_move rfl rfl rfl (by decide +kernel) ⟨Nat.le_of_ble_eq_true rfl, Nat.le_of_ble_eq_true rfl⟩) hK hG hP hD hS hA (List.range 51) nd51 (rg51 G a _) rfl hl.1 rfl (Nat.le_of_ble_eq_true rfl) dL_errors_356 ⟨by show _ ≤ 2290; omega, by show _ ≤ 13740; omega⟩) hP hD hS hA (fun r17 o18 H locs hw hP hD hS => ?_)
    refine lv_ldc2 (v := -9000000000000000002) hx hb hown (hts _ k_L_errors_c17) dL_errors_359 ?_
    refine W.lcmp hx hb dL_errors_362 ?_
    refine lv_if_ne (tgt := 462) hx hb dL_errors_363 (by decide) (fun cd19 => ?_) (fun cd19 => ?_)
    · have hw := hw.1 cd19
      refine lv_iconst (v := 0) hx hb dL_errors_462 (by decide) ?_
      refine lv_istore (lv' := [(4, .int (0 : Int32)), (6, .int y0), (0, .ref (a 0)), (1, .long x1), (3, .int x3), (5, .int x5)]) hx hb dL_errors_463 hl (by decide) rfl (fun ls hl => ?_)
      refine lv_iconst (v := 0) hx hb dL_errors_465 (by decide) ?_
      refine lv_istore (lv' := [(7, .int (0 : Int32)), (4, .int (0 : Int32)), (6, .int y0), (0, .ref (a 0)), (1, .long x1), (3, .int x3), (5, .int x5)]) hx hb dL_errors_466 hl (by decide) rfl (fun ls hl => ?_)
      exact J468 k320 nn320 hk320 15 _ _ o18 x1 x3 (0 : Int32) x5 y0 (0 : Int32) _ _ _ (by omega) (by omega) (Or.inl rfl) hz_y0 hP hD hS (lv_sub hl [3, 4, 5, 1, 6, 2, 0] rfl) hw
    · have hw := hw.2 cd19
      refine lv_aload_n hx hb dL_errors_366 rfl (lv_at hl 1 rfl) ?_
      refine lv_iload hx hb dL_errors_367 (lv_at hl 5 rfl) ?_
      refine lv_iconst (v := 0) hx hb dL_errors_369 (by decide) ?_
      refine lv_bipush (v := 97) hx hb dL_errors_370 (by decide) ?_
      refine kI_l (kr_SW [] ⟨hx, hb, hml, hown, hts⟩ (cb_L_move l hst G a o18 x5 (0 : Int32) (97 : Int32) hw H.size) (vx_cwSW 4 hts gL_errors_L_move rfl rfl rfl (by decide +kernel) ⟨Nat.le_of_ble_eq_true rfl, Nat.le_of_ble_eq_true rfl⟩) hK hG hP hD hS hA (List.range 51) nd51 (rg51 G a _) rfl hl.1 rfl (Nat.le_of_ble_eq_true rfl) dL_errors_372 ⟨by show _ ≤ 2290; omega, by show _ ≤ 13740; omega⟩) hP hD hS hA (fun r36 o37 H locs hw hP hD hS => ?_)
      refine lv_ldc2 (v := -9000000000000000002) hx hb hown (hts _ k_L_errors_c17) dL_errors_375 ?_
      refine W.lcmp hx hb dL_errors_378 ?_
      refine lv_if_ne (tgt := 462) hx hb dL_errors_379 (by decide) (fun cd38 => ?_) (fun cd38 => ?_)
      · have hw := hw.1 cd38
        refine lv_iconst (v := 0) hx hb dL_errors_462 (by decide) ?_
        refine lv_istore (lv' := [(4, .int (0 : Int32)), (6, .int y0), (0, .ref (a 0)), (1, .long x1), (3, .int x3), (5, .int x5)]) hx hb dL_errors_463 hl (by decide) rfl (fun ls hl => ?_)
        refine lv_iconst (v := 0) hx hb dL_errors_465 (by decide) ?_
        refine lv_istore (lv' := [(7, .int (0 : Int32)), (4, .int (0 : Int32)), (6, .int y0), (0, .ref (a 0)), (1, .long x1), (3, .int x3), (5, .int x5)]) hx hb dL_errors_466 hl (by decide) rfl (fun ls hl => ?_)
        exact J468 k320 nn320 hk320 15 _ _ o37 x1 x3 (0 : Int32) x5 y0 (0 : Int32) _ _ _ (by omega) (by omega) (Or.inl rfl) hz_y0 hP hD hS (lv_sub hl [3, 4, 5, 1, 6, 2, 0] rfl) hw
      · have hw := hw.2 cd38
        refine lv_aload_n hx hb dL_errors_382 rfl (lv_at hl 1 rfl) ?_
        refine lv_iload hx hb dL_errors_383 (lv_at hl 5 rfl) ?_
        refine lv_bipush (v := 51) hx hb dL_errors_385 (by decide) ?_
        refine kI_l (kr_SW [] ⟨hx, hb, hml, hown, hts⟩ (cb_L_changeFame l hst G a o37 x5 (51 : Int32) hw H.size) (vx_cwSW 3 hts gL_errors_L_changeFame rfl rfl rfl (by decide +kernel) ⟨Nat.le_of_ble_eq_true rfl, Nat.le_of_ble_eq_true rfl⟩) hK hG hP hD hS hA (List.range 51) nd51 (rg51 G a _) rfl hl.1 rfl (Nat.le_of_ble_eq_true rfl) dL_errors_387 ⟨by show _ ≤ 2290; omega, by show _ ≤ 13740; omega⟩) hP hD hS hA (fun r39 o40 H locs hw hP hD hS => ?_)
        refine lv_ldc2 (v := -9000000000000000002) hx hb hown (hts _ k_L_errors_c17) dL_errors_390 ?_
        refine W.lcmp hx hb dL_errors_393 ?_
        refine lv_if_ne (tgt := 462) hx hb dL_errors_394 (by decide) (fun cd41 => ?_) (fun cd41 => ?_)
        · have hw := hw.1 cd41
          refine lv_iconst (v := 0) hx hb dL_errors_462 (by decide) ?_
          refine lv_istore (lv' := [(4, .int (0 : Int32)), (6, .int y0), (0, .ref (a 0)), (1, .long x1), (3, .int x3), (5, .int x5)]) hx hb dL_errors_463 hl (by decide) rfl (fun ls hl => ?_)
          refine lv_iconst (v := 0) hx hb dL_errors_465 (by decide) ?_
          refine lv_istore (lv' := [(7, .int (0 : Int32)), (4, .int (0 : Int32)), (6, .int y0), (0, .ref (a 0)), (1, .long x1), (3, .int x3), (5, .int x5)]) hx hb dL_errors_466 hl (by decide) rfl (fun ls hl => ?_)
          exact J468 k320 nn320 hk320 15 _ _ o40 x1 x3 (0 : Int32) x5 y0 (0 : Int32) _ _ _ (by omega) (by omega) (Or.inl rfl) hz_y0 hP hD hS (lv_sub hl [3, 4, 5, 1, 6, 2, 0] rfl) hw
        · have hw := hw.2 cd41
          refine lv_aload_n hx hb dL_errors_397 rfl (lv_at hl 1 rfl) ?_
          refine lv_iload hx hb dL_errors_398 (lv_at hl 5 rfl) ?_
          refine lv_iload hx hb dL_errors_400 (lv_at hl 5 rfl) ?_
          refine kI_l (kr_SW [] ⟨hx, hb, hml, hown, hts⟩ (cb_L_conflict l hst G a o40 x5 x5 hw H.size) (vx_cwSW 3 hts gL_errors_L_conflict rfl rfl rfl (by decide +kernel) ⟨Nat.le_of_ble_eq_true rfl, Nat.le_of_ble_eq_true rfl⟩) hK hG hP hD hS hA (List.range 51) nd51 (rg51 G a _) rfl hl.1 rfl (Nat.le_of_ble_eq_true rfl) dL_errors_402 ⟨by show _ ≤ 2290; omega, by show _ ≤ 13740; omega⟩) hP hD hS hA (fun r42 o43 H locs hw hP hD hS => ?_)
          refine lv_lconst (v := 0) hx hb dL_errors_405 (by decide) ?_
          refine W.lcmp hx hb dL_errors_406 ?_
          refine lv_if_ne (tgt := 462) hx hb dL_errors_407 (by decide) (fun cd44 => ?_) (fun cd44 => ?_)
          · have hw := hw.1 cd44
            refine lv_iconst (v := 0) hx hb dL_errors_462 (by decide) ?_
            refine lv_istore (lv' := [(4, .int (0 : Int32)), (6, .int y0), (0, .ref (a 0)), (1, .long x1), (3, .int x3), (5, .int x5)]) hx hb dL_errors_463 hl (by decide) rfl (fun ls hl => ?_)
            refine lv_iconst (v := 0) hx hb dL_errors_465 (by decide) ?_
            refine lv_istore (lv' := [(7, .int (0 : Int32)), (4, .int (0 : Int32)), (6, .int y0), (0, .ref (a 0)), (1, .long x1), (3, .int x3), (5, .int x5)]) hx hb dL_errors_466 hl (by decide) rfl (fun ls hl => ?_)
            exact J468 k320 nn320 hk320 15 _ _ o43 x1 x3 (0 : Int32) x5 y0 (0 : Int32) _ _ _ (by omega) (by omega) (Or.inl rfl) hz_y0 hP hD hS (lv_sub hl [3, 4, 5, 1, 6, 2, 0] rfl) hw
          · have hw := hw.2 cd44
            refine lv_aload_n hx hb dL_errors_410 rfl (lv_at hl 1 rfl) ?_
            refine lv_iload hx hb dL_errors_411 (lv_at hl 5 rfl) ?_
            refine lv_iload_n hx hb dL_errors_413 rfl (lv_at hl 3 rfl) ?_
            refine kI_l (kr_SW [] ⟨hx, hb, hml, hown, hts⟩ (cb_L_conflict l hst G a o43 x5 x3 hw H.size) (vx_cwSW 3 hts gL_errors_L_conflict rfl rfl rfl (by decide +kernel) ⟨Nat.le_of_ble_eq_true rfl, Nat.le_of_ble_eq_true rfl⟩) hK hG hP hD hS hA (List.range 51) nd51 (rg51 G a _) rfl hl.1 rfl (Nat.le_of_ble_eq_true rfl) dL_errors_414 ⟨by show _ ≤ 2290; omega, by show _ ≤ 13740; omega⟩) hP hD hS hA (fun r45 o46 H locs hw hP hD hS => ?_)
            refine lv_ldc2 (v := -9000000000000000001) hx hb hown (hts _ k_L_errors_c29) dL_errors_417 ?_
            refine W.lcmp hx hb dL_errors_420 ?_
            refine lv_if_ne (tgt := 462) hx hb dL_errors_421 (by decide) (fun cd47 => ?_) (fun cd47 => ?_)
            · have hw := hw.1 cd47
              refine lv_iconst (v := 0) hx hb dL_errors_462 (by decide) ?_
              refine lv_istore (lv' := [(4, .int (0 : Int32)), (6, .int y0), (0, .ref (a 0)), (1, .long x1), (3, .int x3), (5, .int x5)]) hx hb dL_errors_463 hl (by decide) rfl (fun ls hl => ?_)
              refine lv_iconst (v := 0) hx hb dL_errors_465 (by decide) ?_
              refine lv_istore (lv' := [(7, .int (0 : Int32)), (4, .int (0 : Int32)), (6, .int y0), (0, .ref (a 0)), (1, .long x1), (3, .int x3), (5, .int x5)]) hx hb dL_errors_466 hl (by decide) rfl (fun ls hl => ?_)
              exact J468 k320 nn320 hk320 15 _ _ o46 x1 x3 (0 : Int32) x5 y0 (0 : Int32) _ _ _ (by omega) (by omega) (Or.inl rfl) hz_y0 hP hD hS (lv_sub hl [3, 4, 5, 1, 6, 2, 0] rfl) hw
            · have hw := hw.2 cd47
              refine lv_iload hx hb dL_errors_424 (lv_at hl 0 rfl) ?_
              refine lv_if_eq (tgt := 445) hx hb dL_errors_426 (by decide) (fun cd48 => ?_) (fun cd48 => ?_)
              · have hw := hw.1 cd48
                refine lv_aload_n hx hb dL_errors_445 rfl (lv_at hl 1 rfl) ?_
                refine lv_iload hx hb dL_errors_446 (lv_at hl 5 rfl) ?_
                refine kI_l (kr_SW [] ⟨hx, hb, hml, hown, hts⟩ (cb_L_cancel l hst G a o46 x5 hw H.size) (vx_cwSW 2 hts gL_errors_L_cancel rfl rfl rfl (by decide +kernel) ⟨Nat.le_of_ble_eq_true rfl, Nat.le_of_ble_eq_true rfl⟩) hK hG hP hD hS hA (List.range 51) nd51 (rg51 G a _) rfl hl.1 rfl (Nat.le_of_ble_eq_true rfl) dL_errors_448 ⟨by show _ ≤ 2290; omega, by show _ ≤ 13740; omega⟩) hP hD hS hA (fun r49 o50 H locs hw hP hD hS => ?_)
                refine lv_ldc2 (v := -9000000000000000003) hx hb hown (hts _ k_L_errors_c21) dL_errors_451 ?_
                refine W.lcmp hx hb dL_errors_454 ?_
                refine lv_if_ne (tgt := 462) hx hb dL_errors_455 (by decide) (fun cd51 => ?_) (fun cd51 => ?_)
                · have hw := hw.1 cd51
                  refine lv_iconst (v := 0) hx hb dL_errors_462 (by decide) ?_
                  refine lv_istore (lv' := [(4, .int (0 : Int32)), (6, .int y0), (0, .ref (a 0)), (1, .long x1), (3, .int x3), (5, .int x5)]) hx hb dL_errors_463 hl (by decide) rfl (fun ls hl => ?_)
                  refine lv_iconst (v := 0) hx hb dL_errors_465 (by decide) ?_
                  refine lv_istore (lv' := [(7, .int (0 : Int32)), (4, .int (0 : Int32)), (6, .int y0), (0, .ref (a 0)), (1, .long x1), (3, .int x3), (5, .int x5)]) hx hb dL_errors_466 hl (by decide) rfl (fun ls hl => ?_)
                  exact J468 k320 nn320 hk320 15 _ _ o50 x1 x3 (0 : Int32) x5 y0 (0 : Int32) _ _ _ (by omega) (by omega) (Or.inl rfl) hz_y0 hP hD hS (lv_sub hl [3, 4, 5, 1, 6, 2, 0] rfl) hw
                · have hw := hw.2 cd51
                  exact J458 k320 nn320 hk320 _ _ o50 x1 x3 x4 x5 y0 _ _ _ (by omega) (by omega) hz_x4 hz_y0 hP hD hS (lv_sub hl [1, 2, 3, 4, 5, 0] rfl) hw
              · have hw := hw.2 cd48
                refine lv_aload_n hx hb dL_errors_429 rfl (lv_at hl 1 rfl) ?_
                refine lv_iload hx hb dL_errors_430 (lv_at hl 5 rfl) ?_
                refine kI_l (kr_SW [] ⟨hx, hb, hml, hown, hts⟩ (cb_L_book l hst G a o46 x5 hw H.size) (vx_cwSW 2 hts gL_errors_L_book rfl rfl rfl (by decide +kernel) ⟨Nat.le_of_ble_eq_true rfl, Nat.le_of_ble_eq_true rfl⟩) hK hG hP hD hS hA (List.range 51) nd51 (rg51 G a _) rfl hl.1 rfl (Nat.le_of_ble_eq_true rfl) dL_errors_432 ⟨by show _ ≤ 2290; omega, by show _ ≤ 13740; omega⟩) hP hD hS hA (fun r52 o53 H locs hw hP hD hS => ?_)
                refine lv_ldc2 (v := -9000000000000000003) hx hb hown (hts _ k_L_errors_c21) dL_errors_435 ?_
                refine W.lcmp hx hb dL_errors_438 ?_
                refine lv_if_ne (tgt := 462) hx hb dL_errors_439 (by decide) (fun cd54 => ?_) (fun cd54 => ?_)
                · have hw := hw.1 cd54
                  refine lv_iconst (v := 0) hx hb dL_errors_462 (by decide) ?_
                  refine lv_istore (lv' := [(4, .int (0 : Int32)), (6, .int y0), (0, .ref (a 0)), (1, .long x1), (3, .int x3), (5, .int x5)]) hx hb dL_errors_463 hl (by decide) rfl (fun ls hl => ?_)
                  refine lv_iconst (v := 0) hx hb dL_errors_465 (by decide) ?_
                  refine lv_istore (lv' := [(7, .int (0 : Int32)), (4, .int (0 : Int32)), (6, .int y0), (0, .ref (a 0)), (1, .long x1), (3, .int x3), (5, .int x5)]) hx hb dL_errors_466 hl (by decide) rfl (fun ls hl => ?_)
                  exact J468 k320 nn320 hk320 15 _ _ o53 x1 x3 (0 : Int32) x5 y0 (0 : Int32) _ _ _ (by omega) (by omega) (Or.inl rfl) hz_y0 hP hD hS (lv_sub hl [3, 4, 5, 1, 6, 2, 0] rfl) hw
                · have hw := hw.2 cd54
                  refine lv_goto (tgt := 458) hx hb dL_errors_442 (by decide) ?_
                  exact J458 k320 nn320 hk320 _ _ o53 x1 x3 x4 x5 y0 _ _ _ (by omega) (by omega) hz_x4 hz_y0 hP hD hS (lv_sub hl [1, 2, 3, 4, 5, 0] rfl) hw
  have J320 : ∀ (n : Nat) (k z : Nat) (o : OB) (x1 : Int64) (x3 : Int32) (x4 : Int32) (x5 : Int32) (H : Heap) (locs : List Loc) (ls : Array Slot), k + (n * 150 + 0) ≤ 2290 → z + 6 * (n * 150 + 0) ≤ 13740 → (x4 = 0 ∨ x4 = 1) → va_P (gD G) vwCl (wOB G a o) H → va_D A (wOB G a o) → va_S A s.heap H locs → lv_has ls 8 [(0, .ref (a 0)), (1, .long x1), (3, .int x3), (4, .int x4), (5, .int x5)] → wl_b_L_errors_320 Q n o x1 x3 x4 x5 → W p l e ({ frames := 23, cells := 2290, slots := 13740, locals := 591 } : Room) s m ([.ref (a 0)] : List Value).toArray below meth c H locs k z (MQ below (va_Qi (fun (r : Int32) (u : OB) => (r = 0 ∨ r = 1) ∧ Q r u) (mBk G A (fun (u : OB) => (wOB G a u))) A) ([.ref (a 0)] : List Value).toArray s 2290 13740 A) (F0 m 320 ls []) := by
    intro n
    induction n with
    | zero => intro k z o x1 x3 x4 x5 H locs ls hbk hbz hz_x4 hP hD hS hl hw; exact False.elim hw
    | succ n ih =>
      intro k z o x1 x3 x4 x5 H locs ls hbk hbz hz_x4 hP hD hS hl hw
      rw [wl_b_L_errors_320] at hw
      refine lv_iload hx hb dL_errors_320 (lv_at hl 4 rfl) ?_
      refine lv_iload_n hx hb dL_errors_322 rfl (lv_at hl 2 rfl) ?_
      refine lv_icmp_ge (tgt := 555) hx hb dL_errors_323 (by decide) (fun cd8 => ?_) (fun cd8 => ?_)
      · have hw := hw.1 cd8
        exact J555 _ _ o x1 x3 x4 x5 _ _ _ (by omega) (by omega) hz_x4 hP hD hS hl hw
      · have hw := hw.2 cd8
        refine lv_iload hx hb dL_errors_326 (lv_at hl 3 rfl) ?_
        refine lv_if_eq (tgt := 555) hx hb dL_errors_328 (by decide) (fun cd13 => ?_) (fun cd13 => ?_)
        · have hw := hw.1 cd13
          exact J555 _ _ o x1 x3 x4 x5 _ _ _ (by omega) (by omega) hz_x4 hP hD hS hl hw
        · have hw := hw.2 cd13
          refine lv_aload_n hx hb dL_errors_331 rfl (lv_at hl 0 rfl) ?_
          refine lv_iload hx hb dL_errors_332 (lv_at hl 4 rfl) ?_
          refine kI_l (kr_SW [] ⟨hx, hb, hml, hown, hts⟩ (cb_L_isBooked l hst G a o x5 hw H.size) (vx_cwSW 2 hts gL_errors_L_isBooked rfl rfl rfl (by decide +kernel) ⟨Nat.le_of_ble_eq_true rfl, Nat.le_of_ble_eq_true rfl⟩) hK hG hP hD hS hA (List.range 51) nd51 (rg51 G a _) rfl hl.1 rfl (Nat.le_of_ble_eq_true rfl) dL_errors_334 ⟨by show _ ≤ 2290; omega, by show _ ≤ 13740; omega⟩) hP hD hS hA (fun r14 o15 H locs hw hP hD hS => ?_)
          refine lv_lconst (v := 1) hx hb dL_errors_337 (by decide) ?_
          refine W.lcmp hx hb dL_errors_338 ?_
          refine lv_if_ne (tgt := 346) hx hb dL_errors_339 (by decide) (fun cd16 => ?_) (fun cd16 => ?_)
          · have hw := hw.1 cd16
            refine lv_iconst (v := 0) hx hb dL_errors_346 (by decide) ?_
            exact J347 (fun (z0 : OB) (z1 : Int64) (z2 : Int32) (z3 : Int32) (z4 : Int32) => wl_b_L_errors_320 Q n z0 z1 z2 z3 z4) (n * 150 + 0) ih _ _ o15 x1 x3 x4 x5 (0 : Int32) _ _ _ (by omega) (by omega) hz_x4 (Or.inl rfl) hP hD hS hl hw
          · have hw := hw.2 cd16
            refine lv_iconst (v := 1) hx hb dL_errors_342 (by decide) ?_
            refine lv_goto (tgt := 347) hx hb dL_errors_343 (by decide) ?_
            exact J347 (fun (z0 : OB) (z1 : Int64) (z2 : Int32) (z3 : Int32) (z4 : Int32) => wl_b_L_errors_320 Q n z0 z1 z2 z3 z4) (n * 150 + 0) ih _ _ o15 x1 x3 x4 x5 (1 : Int32) _ _ _ (by omega) (by omega) hz_x4 (Or.inr rfl) hP hD hS hl hw
  have J88 : ∀ (k z : Nat) (o : OB) (x1 : Int64) (x3 : Int32) (H : Heap) (locs : List Loc) (ls : Array Slot), k + (2275) ≤ 2290 → z + 6 * (2275) ≤ 13740 → va_P (gD G) vwCl (wOB G a o) H → va_D A (wOB G a o) → va_S A s.heap H locs → lv_has ls 8 [(0, .ref (a 0)), (1, .long x1), (3, .int x3)] → wj_b_L_errors_88 Q o x1 x3 → W p l e ({ frames := 23, cells := 2290, slots := 13740, locals := 591 } : Room) s m ([.ref (a 0)] : List Value).toArray below meth c H locs k z (MQ below (va_Qi (fun (r : Int32) (u : OB) => (r = 0 ∨ r = 1) ∧ Q r u) (mBk G A (fun (u : OB) => (wOB G a u))) A) ([.ref (a 0)] : List Value).toArray s 2290 13740 A) (F0 m 88 ls []) := by
    intro k z o x1 x3 H locs ls hbk hbz hP hD hS hl hw
    unfold wj_b_L_errors_88 at hw
    refine lv_aload_n hx hb dL_errors_88 rfl (lv_at hl 0 rfl) ?_
    refine lv_iload_n hx hb dL_errors_89 rfl (lv_at hl 2 rfl) ?_
    refine kI_l (kr_SW [] ⟨hx, hb, hml, hown, hts⟩ (cb_L_strike l hst G a o x3 hw H.size) (vx_cwSW 2 hts gL_errors_L_strike rfl rfl rfl (by decide +kernel) ⟨Nat.le_of_ble_eq_true rfl, Nat.le_of_ble_eq_true rfl⟩) hK hG hP hD hS hA (List.range 51) nd51 (rg51 G a _) rfl hl.1 rfl (Nat.le_of_ble_eq_true rfl) dL_errors_90 ⟨by show _ ≤ 2290; omega, by show _ ≤ 13740; omega⟩) hP hD hS hA (fun r65 o66 H locs hw hP hD hS => ?_)
    refine lv_ldc2 (v := -9000000000000000001) hx hb hown (hts _ k_L_errors_c29) dL_errors_93 ?_
    refine W.lcmp hx hb dL_errors_96 ?_
    refine lv_if_ne (tgt := 314) hx hb dL_errors_97 (by decide) (fun cd67 => ?_) (fun cd67 => ?_)
    · have hw := hw.1 cd67
      refine lv_iconst (v := 0) hx hb dL_errors_314 (by decide) ?_
      refine lv_istore (lv' := [(4, .int (0 : Int32)), (0, .ref (a 0)), (1, .long x1), (3, .int x3)]) hx hb dL_errors_315 hl (by decide) rfl (fun ls hl => ?_)
      refine lv_iconst (v := 0) hx hb dL_errors_317 (by decide) ?_
      refine lv_istore (lv' := [(5, .int (0 : Int32)), (4, .int (0 : Int32)), (0, .ref (a 0)), (1, .long x1), (3, .int x3)]) hx hb dL_errors_318 hl (by decide) rfl (fun ls hl => ?_)
      exact J320 15 _ _ o66 x1 x3 (0 : Int32) (0 : Int32) _ _ _ (by omega) (by omega) (Or.inl rfl) hP hD hS (lv_sub hl [2, 3, 4, 1, 0] rfl) hw
    · have hw := hw.2 cd67
      refine lv_aload_n hx hb dL_errors_100 rfl (lv_at hl 0 rfl) ?_
      refine lv_iload_n hx hb dL_errors_101 rfl (lv_at hl 2 rfl) ?_
      refine lv_iconst (v := 5) hx hb dL_errors_102 (by decide) ?_
      refine lv_iconst (v := 5) hx hb dL_errors_103 (by decide) ?_
      refine kI_l (kr_SW [] ⟨hx, hb, hml, hown, hts⟩ (cb_L_move l hst G a o66 x3 (5 : Int32) (5 : Int32) hw H.size) (vx_cwSW 4 hts gL_errors_L_move rfl rfl rfl (by decide +kernel) ⟨Nat.le_of_ble_eq_true rfl, Nat.le_of_ble_eq_true rfl⟩) hK hG hP hD hS hA (List.range 51) nd51 (rg51 G a _) rfl hl.1 rfl (Nat.le_of_ble_eq_true rfl) dL_errors_104 ⟨by show _ ≤ 2290; omega, by show _ ≤ 13740; omega⟩) hP hD hS hA (fun r68 o69 H locs hw hP hD hS => ?_)
      refine lv_ldc2 (v := -9000000000000000001) hx hb hown (hts _ k_L_errors_c29) dL_errors_107 ?_
      refine W.lcmp hx hb dL_errors_110 ?_
      refine lv_if_ne (tgt := 314) hx hb dL_errors_111 (by decide) (fun cd70 => ?_) (fun cd70 => ?_)
      · have hw := hw.1 cd70
        refine lv_iconst (v := 0) hx hb dL_errors_314 (by decide) ?_
        refine lv_istore (lv' := [(4, .int (0 : Int32)), (0, .ref (a 0)), (1, .long x1), (3, .int x3)]) hx hb dL_errors_315 hl (by decide) rfl (fun ls hl => ?_)
        refine lv_iconst (v := 0) hx hb dL_errors_317 (by decide) ?_
        refine lv_istore (lv' := [(5, .int (0 : Int32)), (4, .int (0 : Int32)), (0, .ref (a 0)), (1, .long x1), (3, .int x3)]) hx hb dL_errors_318 hl (by decide) rfl (fun ls hl => ?_)
        exact J320 15 _ _ o69 x1 x3 (0 : Int32) (0 : Int32) _ _ _ (by omega) (by omega) (Or.inl rfl) hP hD hS (lv_sub hl [2, 3, 4, 1, 0] rfl) hw
      · have hw := hw.2 cd70
        refine lv_aload_n hx hb dL_errors_114 rfl (lv_at hl 0 rfl) ?_
        refine lv_iload_n hx hb dL_errors_115 rfl (lv_at hl 2 rfl) ?_
        refine lv_iconst (v := 0) hx hb dL_errors_116 (by decide) ?_
        refine kI_l (kr_SW [] ⟨hx, hb, hml, hown, hts⟩ (cb_L_changeFame l hst G a o69 x3 (0 : Int32) hw H.size) (vx_cwSW 3 hts gL_errors_L_changeFame rfl rfl rfl (by decide +kernel) ⟨Nat.le_of_ble_eq_true rfl, Nat.le_of_ble_eq_true rfl⟩) hK hG hP hD hS hA (List.range 51) nd51 (rg51 G a _) rfl hl.1 rfl (Nat.le_of_ble_eq_true rfl) dL_errors_117 ⟨by show _ ≤ 2290; omega, by show _ ≤ 13740; omega⟩) hP hD hS hA (fun r71 o72 H locs hw hP hD hS => ?_)
        refine lv_ldc2 (v := -9000000000000000001) hx hb hown (hts _ k_L_errors_c29) dL_errors_120 ?_
        refine W.lcmp hx hb dL_errors_123 ?_
        refine lv_if_ne (tgt := 314) hx hb dL_errors_124 (by decide) (fun cd73 => ?_) (fun cd73 => ?_)
        · have hw := hw.1 cd73
          refine lv_iconst (v := 0) hx hb dL_errors_314 (by decide) ?_
          refine lv_istore (lv' := [(4, .int (0 : Int32)), (0, .ref (a 0)), (1, .long x1), (3, .int x3)]) hx hb dL_errors_315 hl (by decide) rfl (fun ls hl => ?_)
          refine lv_iconst (v := 0) hx hb dL_errors_317 (by decide) ?_
          refine lv_istore (lv' := [(5, .int (0 : Int32)), (4, .int (0 : Int32)), (0, .ref (a 0)), (1, .long x1), (3, .int x3)]) hx hb dL_errors_318 hl (by decide) rfl (fun ls hl => ?_)
          exact J320 15 _ _ o72 x1 x3 (0 : Int32) (0 : Int32) _ _ _ (by omega) (by omega) (Or.inl rfl) hP hD hS (lv_sub hl [2, 3, 4, 1, 0] rfl) hw
        · have hw := hw.2 cd73
          refine lv_aload_n hx hb dL_errors_127 rfl (lv_at hl 0 rfl) ?_
          refine lv_iconst (v := -1) hx hb dL_errors_128 (by decide) ?_
          refine kI_l (kr_SW [] ⟨hx, hb, hml, hown, hts⟩ (cb_L_changePause l hst G a o72 (-1 : Int32) hw H.size) (vx_cwSW 2 hts gL_errors_L_changePause rfl rfl rfl (by decide +kernel) ⟨Nat.le_of_ble_eq_true rfl, Nat.le_of_ble_eq_true rfl⟩) hK hG hP hD hS hA (List.range 51) nd51 (rg51 G a _) rfl hl.1 rfl (Nat.le_of_ble_eq_true rfl) dL_errors_129 ⟨by show _ ≤ 2290; omega, by show _ ≤ 13740; omega⟩) hP hD hS hA (fun r74 o75 H locs hw hP hD hS => ?_)
          refine lv_ldc2 (v := -9000000000000000002) hx hb hown (hts _ k_L_errors_c17) dL_errors_132 ?_
          refine W.lcmp hx hb dL_errors_135 ?_
          refine lv_if_ne (tgt := 314) hx hb dL_errors_136 (by decide) (fun cd76 => ?_) (fun cd76 => ?_)
          · have hw := hw.1 cd76
            refine lv_iconst (v := 0) hx hb dL_errors_314 (by decide) ?_
            refine lv_istore (lv' := [(4, .int (0 : Int32)), (0, .ref (a 0)), (1, .long x1), (3, .int x3)]) hx hb dL_errors_315 hl (by decide) rfl (fun ls hl => ?_)
            refine lv_iconst (v := 0) hx hb dL_errors_317 (by decide) ?_
            refine lv_istore (lv' := [(5, .int (0 : Int32)), (4, .int (0 : Int32)), (0, .ref (a 0)), (1, .long x1), (3, .int x3)]) hx hb dL_errors_318 hl (by decide) rfl (fun ls hl => ?_)
            exact J320 15 _ _ o75 x1 x3 (0 : Int32) (0 : Int32) _ _ _ (by omega) (by omega) (Or.inl rfl) hP hD hS (lv_sub hl [2, 3, 4, 1, 0] rfl) hw
          · have hw := hw.2 cd76
            refine lv_aload_n hx hb dL_errors_139 rfl (lv_at hl 0 rfl) ?_
            refine lv_bipush (v := 9) hx hb dL_errors_140 (by decide) ?_
            refine kI_l (kr_SW [] ⟨hx, hb, hml, hown, hts⟩ (cb_L_changePause l hst G a o75 (9 : Int32) hw H.size) (vx_cwSW 2 hts gL_errors_L_changePause rfl rfl rfl (by decide +kernel) ⟨Nat.le_of_ble_eq_true rfl, Nat.le_of_ble_eq_true rfl⟩) hK hG hP hD hS hA (List.range 51) nd51 (rg51 G a _) rfl hl.1 rfl (Nat.le_of_ble_eq_true rfl) dL_errors_142 ⟨by show _ ≤ 2290; omega, by show _ ≤ 13740; omega⟩) hP hD hS hA (fun r77 o78 H locs hw hP hD hS => ?_)
            refine lv_ldc2 (v := -9000000000000000002) hx hb hown (hts _ k_L_errors_c17) dL_errors_145 ?_
            refine W.lcmp hx hb dL_errors_148 ?_
            refine lv_if_ne (tgt := 314) hx hb dL_errors_149 (by decide) (fun cd79 => ?_) (fun cd79 => ?_)
            · have hw := hw.1 cd79
              refine lv_iconst (v := 0) hx hb dL_errors_314 (by decide) ?_
              refine lv_istore (lv' := [(4, .int (0 : Int32)), (0, .ref (a 0)), (1, .long x1), (3, .int x3)]) hx hb dL_errors_315 hl (by decide) rfl (fun ls hl => ?_)
              refine lv_iconst (v := 0) hx hb dL_errors_317 (by decide) ?_
              refine lv_istore (lv' := [(5, .int (0 : Int32)), (4, .int (0 : Int32)), (0, .ref (a 0)), (1, .long x1), (3, .int x3)]) hx hb dL_errors_318 hl (by decide) rfl (fun ls hl => ?_)
              exact J320 15 _ _ o78 x1 x3 (0 : Int32) (0 : Int32) _ _ _ (by omega) (by omega) (Or.inl rfl) hP hD hS (lv_sub hl [2, 3, 4, 1, 0] rfl) hw
            · have hw := hw.2 cd79
              refine lv_aload_n hx hb dL_errors_152 rfl (lv_at hl 0 rfl) ?_
              refine lv_iload_n hx hb dL_errors_153 rfl (lv_at hl 2 rfl) ?_
              refine kI_l (kr_SW [] ⟨hx, hb, hml, hown, hts⟩ (cb_L_book l hst G a o78 x3 hw H.size) (vx_cwSW 2 hts gL_errors_L_book rfl rfl rfl (by decide +kernel) ⟨Nat.le_of_ble_eq_true rfl, Nat.le_of_ble_eq_true rfl⟩) hK hG hP hD hS hA (List.range 51) nd51 (rg51 G a _) rfl hl.1 rfl (Nat.le_of_ble_eq_true rfl) dL_errors_154 ⟨by show _ ≤ 2290; omega, by show _ ≤ 13740; omega⟩) hP hD hS hA (fun r80 o81 H locs hw hP hD hS => ?_)
              refine lv_ldc2 (v := -9000000000000000001) hx hb hown (hts _ k_L_errors_c29) dL_errors_157 ?_
              refine W.lcmp hx hb dL_errors_160 ?_
              refine lv_if_ne (tgt := 314) hx hb dL_errors_161 (by decide) (fun cd82 => ?_) (fun cd82 => ?_)
              · have hw := hw.1 cd82
                refine lv_iconst (v := 0) hx hb dL_errors_314 (by decide) ?_
                refine lv_istore (lv' := [(4, .int (0 : Int32)), (0, .ref (a 0)), (1, .long x1), (3, .int x3)]) hx hb dL_errors_315 hl (by decide) rfl (fun ls hl => ?_)
                refine lv_iconst (v := 0) hx hb dL_errors_317 (by decide) ?_
                refine lv_istore (lv' := [(5, .int (0 : Int32)), (4, .int (0 : Int32)), (0, .ref (a 0)), (1, .long x1), (3, .int x3)]) hx hb dL_errors_318 hl (by decide) rfl (fun ls hl => ?_)
                exact J320 15 _ _ o81 x1 x3 (0 : Int32) (0 : Int32) _ _ _ (by omega) (by omega) (Or.inl rfl) hP hD hS (lv_sub hl [2, 3, 4, 1, 0] rfl) hw
              · have hw := hw.2 cd82
                refine lv_aload_n hx hb dL_errors_164 rfl (lv_at hl 0 rfl) ?_
                refine lv_iconst (v := -1) hx hb dL_errors_165 (by decide) ?_
                refine kI_l (kr_SW [] ⟨hx, hb, hml, hown, hts⟩ (cb_L_cancel l hst G a o81 (-1 : Int32) hw H.size) (vx_cwSW 2 hts gL_errors_L_cancel rfl rfl rfl (by decide +kernel) ⟨Nat.le_of_ble_eq_true rfl, Nat.le_of_ble_eq_true rfl⟩) hK hG hP hD hS hA (List.range 51) nd51 (rg51 G a _) rfl hl.1 rfl (Nat.le_of_ble_eq_true rfl) dL_errors_166 ⟨by show _ ≤ 2290; omega, by show _ ≤ 13740; omega⟩) hP hD hS hA (fun r83 o84 H locs hw hP hD hS => ?_)
                refine lv_ldc2 (v := -9000000000000000001) hx hb hown (hts _ k_L_errors_c29) dL_errors_169 ?_
                refine W.lcmp hx hb dL_errors_172 ?_
                refine lv_if_ne (tgt := 314) hx hb dL_errors_173 (by decide) (fun cd85 => ?_) (fun cd85 => ?_)
                · have hw := hw.1 cd85
                  refine lv_iconst (v := 0) hx hb dL_errors_314 (by decide) ?_
                  refine lv_istore (lv' := [(4, .int (0 : Int32)), (0, .ref (a 0)), (1, .long x1), (3, .int x3)]) hx hb dL_errors_315 hl (by decide) rfl (fun ls hl => ?_)
                  refine lv_iconst (v := 0) hx hb dL_errors_317 (by decide) ?_
                  refine lv_istore (lv' := [(5, .int (0 : Int32)), (4, .int (0 : Int32)), (0, .ref (a 0)), (1, .long x1), (3, .int x3)]) hx hb dL_errors_318 hl (by decide) rfl (fun ls hl => ?_)
                  exact J320 15 _ _ o84 x1 x3 (0 : Int32) (0 : Int32) _ _ _ (by omega) (by omega) (Or.inl rfl) hP hD hS (lv_sub hl [2, 3, 4, 1, 0] rfl) hw
                · have hw := hw.2 cd85
                  refine lv_aload_n hx hb dL_errors_176 rfl (lv_at hl 0 rfl) ?_
                  refine lv_bipush (v := 127) hx hb dL_errors_177 (by decide) ?_
                  refine kI_l (kr_SW [] ⟨hx, hb, hml, hown, hts⟩ (cb_L_append l hst G a o84 (127 : Int32) hw H.size) (vx_cwSW 2 hts gL_errors_L_append rfl rfl rfl (by decide +kernel) ⟨Nat.le_of_ble_eq_true rfl, Nat.le_of_ble_eq_true rfl⟩) hK hG hP hD hS hA (List.range 51) nd51 (rg51 G a _) rfl hl.1 rfl (Nat.le_of_ble_eq_true rfl) dL_errors_179 ⟨by show _ ≤ 2290; omega, by show _ ≤ 13740; omega⟩) hP hD hS hA (fun r86 o87 H locs hw hP hD hS => ?_)
                  refine lv_ldc2 (v := -9000000000000000002) hx hb hown (hts _ k_L_errors_c17) dL_errors_182 ?_
                  refine W.lcmp hx hb dL_errors_185 ?_
                  refine lv_if_ne (tgt := 314) hx hb dL_errors_186 (by decide) (fun cd88 => ?_) (fun cd88 => ?_)
                  · have hw := hw.1 cd88
                    refine lv_iconst (v := 0) hx hb dL_errors_314 (by decide) ?_
                    refine lv_istore (lv' := [(4, .int (0 : Int32)), (0, .ref (a 0)), (1, .long x1), (3, .int x3)]) hx hb dL_errors_315 hl (by decide) rfl (fun ls hl => ?_)
                    refine lv_iconst (v := 0) hx hb dL_errors_317 (by decide) ?_
                    refine lv_istore (lv' := [(5, .int (0 : Int32)), (4, .int (0 : Int32)), (0, .ref (a 0)), (1, .long x1), (3, .int x3)]) hx hb dL_errors_318 hl (by decide) rfl (fun ls hl => ?_)
                    exact J320 15 _ _ o87 x1 x3 (0 : Int32) (0 : Int32) _ _ _ (by omega) (by omega) (Or.inl rfl) hP hD hS (lv_sub hl [2, 3, 4, 1, 0] rfl) hw
                  · have hw := hw.2 cd88
                    refine lv_aload_n hx hb dL_errors_189 rfl (lv_at hl 0 rfl) ?_
                    refine lv_iconst (v := 2) hx hb dL_errors_190 (by decide) ?_
                    refine kI_l (kr_SW [] ⟨hx, hb, hml, hown, hts⟩ (cb_L_keep l hst G a o87 (2 : Int32) hw H.size) (vx_cwSW 2 hts gL_errors_L_keep rfl rfl rfl (by decide +kernel) ⟨Nat.le_of_ble_eq_true rfl, Nat.le_of_ble_eq_true rfl⟩) hK hG hP hD hS hA (List.range 51) nd51 (rg51 G a _) rfl hl.1 rfl (Nat.le_of_ble_eq_true rfl) dL_errors_191 ⟨by show _ ≤ 2290; omega, by show _ ≤ 13740; omega⟩) hP hD hS hA (fun r89 o90 H locs hw hP hD hS => ?_)
                    refine lv_ldc2 (v := -9000000000000000002) hx hb hown (hts _ k_L_errors_c17) dL_errors_194 ?_
                    refine W.lcmp hx hb dL_errors_197 ?_
                    refine lv_if_ne (tgt := 314) hx hb dL_errors_198 (by decide) (fun cd91 => ?_) (fun cd91 => ?_)
                    · have hw := hw.1 cd91
                      refine lv_iconst (v := 0) hx hb dL_errors_314 (by decide) ?_
                      refine lv_istore (lv' := [(4, .int (0 : Int32)), (0, .ref (a 0)), (1, .long x1), (3, .int x3)]) hx hb dL_errors_315 hl (by decide) rfl (fun ls hl => ?_)
                      refine lv_iconst (v := 0) hx hb dL_errors_317 (by decide) ?_
                      refine lv_istore (lv' := [(5, .int (0 : Int32)), (4, .int (0 : Int32)), (0, .ref (a 0)), (1, .long x1), (3, .int x3)]) hx hb dL_errors_318 hl (by decide) rfl (fun ls hl => ?_)
                      exact J320 15 _ _ o90 x1 x3 (0 : Int32) (0 : Int32) _ _ _ (by omega) (by omega) (Or.inl rfl) hP hD hS (lv_sub hl [2, 3, 4, 1, 0] rfl) hw
                    · have hw := hw.2 cd91
                      refine lv_aload_n hx hb dL_errors_201 rfl (lv_at hl 0 rfl) ?_
                      refine lv_iconst (v := -1) hx hb dL_errors_202 (by decide) ?_
                      refine kI_l (kr_SW [] ⟨hx, hb, hml, hown, hts⟩ (cb_L_goBack l hst G a o90 (-1 : Int32) hw H.size) (vx_cwSW 2 hts gL_errors_L_goBack rfl rfl rfl (by decide +kernel) ⟨Nat.le_of_ble_eq_true rfl, Nat.le_of_ble_eq_true rfl⟩) hK hG hP hD hS hA (List.range 51) nd51 (rg51 G a _) rfl hl.1 rfl (Nat.le_of_ble_eq_true rfl) dL_errors_203 ⟨by show _ ≤ 2290; omega, by show _ ≤ 13740; omega⟩) hP hD hS hA (fun r92 o93 H locs hw hP hD hS => ?_)
                      refine lv_ldc2 (v := -9000000000000000002) hx hb hown (hts _ k_L_errors_c17) dL_errors_206 ?_
                      refine W.lcmp hx hb dL_errors_209 ?_
                      refine lv_if_ne (tgt := 314) hx hb dL_errors_210 (by decide) (fun cd94 => ?_) (fun cd94 => ?_)
                      · have hw := hw.1 cd94
                        refine lv_iconst (v := 0) hx hb dL_errors_314 (by decide) ?_
                        refine lv_istore (lv' := [(4, .int (0 : Int32)), (0, .ref (a 0)), (1, .long x1), (3, .int x3)]) hx hb dL_errors_315 hl (by decide) rfl (fun ls hl => ?_)
                        refine lv_iconst (v := 0) hx hb dL_errors_317 (by decide) ?_
                        refine lv_istore (lv' := [(5, .int (0 : Int32)), (4, .int (0 : Int32)), (0, .ref (a 0)), (1, .long x1), (3, .int x3)]) hx hb dL_errors_318 hl (by decide) rfl (fun ls hl => ?_)
                        exact J320 15 _ _ o93 x1 x3 (0 : Int32) (0 : Int32) _ _ _ (by omega) (by omega) (Or.inl rfl) hP hD hS (lv_sub hl [2, 3, 4, 1, 0] rfl) hw
                      · have hw := hw.2 cd94
                        refine lv_aload_n hx hb dL_errors_213 rfl (lv_at hl 0 rfl) ?_
                        refine lv_iload_n hx hb dL_errors_214 rfl (lv_at hl 2 rfl) ?_
                        refine kI_l (kr_SW [] ⟨hx, hb, hml, hown, hts⟩ (cb_L_beginOf l hst G a o93 x3 hw H.size) (vx_cwSW 2 hts gL_errors_L_beginOf rfl rfl rfl (by decide +kernel) ⟨Nat.le_of_ble_eq_true rfl, Nat.le_of_ble_eq_true rfl⟩) hK hG hP hD hS hA (List.range 51) nd51 (rg51 G a _) rfl hl.1 rfl (Nat.le_of_ble_eq_true rfl) dL_errors_215 ⟨by show _ ≤ 2290; omega, by show _ ≤ 13740; omega⟩) hP hD hS hA (fun r95 o96 H locs hw hP hD hS => ?_)
                        refine lv_ldc2 (v := -9000000000000000001) hx hb hown (hts _ k_L_errors_c29) dL_errors_218 ?_
                        refine W.lcmp hx hb dL_errors_221 ?_
                        refine lv_if_ne (tgt := 314) hx hb dL_errors_222 (by decide) (fun cd97 => ?_) (fun cd97 => ?_)
                        · have hw := hw.1 cd97
                          refine lv_iconst (v := 0) hx hb dL_errors_314 (by decide) ?_
                          refine lv_istore (lv' := [(4, .int (0 : Int32)), (0, .ref (a 0)), (1, .long x1), (3, .int x3)]) hx hb dL_errors_315 hl (by decide) rfl (fun ls hl => ?_)
                          refine lv_iconst (v := 0) hx hb dL_errors_317 (by decide) ?_
                          refine lv_istore (lv' := [(5, .int (0 : Int32)), (4, .int (0 : Int32)), (0, .ref (a 0)), (1, .long x1), (3, .int x3)]) hx hb dL_errors_318 hl (by decide) rfl (fun ls hl => ?_)
                          exact J320 15 _ _ o96 x1 x3 (0 : Int32) (0 : Int32) _ _ _ (by omega) (by omega) (Or.inl rfl) hP hD hS (lv_sub hl [2, 3, 4, 1, 0] rfl) hw
                        · have hw := hw.2 cd97
                          refine lv_aload_n hx hb dL_errors_225 rfl (lv_at hl 0 rfl) ?_
                          refine lv_iconst (v := -1) hx hb dL_errors_226 (by decide) ?_
                          refine kI_l (kr_SW [] ⟨hx, hb, hml, hown, hts⟩ (cb_L_endOf l hst G a o96 (-1 : Int32) hw H.size) (vx_cwSW 2 hts gL_errors_L_endOf rfl rfl rfl (by decide +kernel) ⟨Nat.le_of_ble_eq_true rfl, Nat.le_of_ble_eq_true rfl⟩) hK hG hP hD hS hA (List.range 51) nd51 (rg51 G a _) rfl hl.1 rfl (Nat.le_of_ble_eq_true rfl) dL_errors_227 ⟨by show _ ≤ 2290; omega, by show _ ≤ 13740; omega⟩) hP hD hS hA (fun r98 o99 H locs hw hP hD hS => ?_)
                          refine lv_ldc2 (v := -9000000000000000001) hx hb hown (hts _ k_L_errors_c29) dL_errors_230 ?_
                          refine W.lcmp hx hb dL_errors_233 ?_
                          refine lv_if_ne (tgt := 314) hx hb dL_errors_234 (by decide) (fun cd100 => ?_) (fun cd100 => ?_)
                          · have hw := hw.1 cd100
                            refine lv_iconst (v := 0) hx hb dL_errors_314 (by decide) ?_
                            refine lv_istore (lv' := [(4, .int (0 : Int32)), (0, .ref (a 0)), (1, .long x1), (3, .int x3)]) hx hb dL_errors_315 hl (by decide) rfl (fun ls hl => ?_)
                            refine lv_iconst (v := 0) hx hb dL_errors_317 (by decide) ?_
                            refine lv_istore (lv' := [(5, .int (0 : Int32)), (4, .int (0 : Int32)), (0, .ref (a 0)), (1, .long x1), (3, .int x3)]) hx hb dL_errors_318 hl (by decide) rfl (fun ls hl => ?_)
                            exact J320 15 _ _ o99 x1 x3 (0 : Int32) (0 : Int32) _ _ _ (by omega) (by omega) (Or.inl rfl) hP hD hS (lv_sub hl [2, 3, 4, 1, 0] rfl) hw
                          · have hw := hw.2 cd100
                            refine lv_aload_n hx hb dL_errors_237 rfl (lv_at hl 0 rfl) ?_
                            refine lv_iload_n hx hb dL_errors_238 rfl (lv_at hl 2 rfl) ?_
                            refine kI_l (kr_SW [] ⟨hx, hb, hml, hown, hts⟩ (cb_L_fameOf l hst G a o99 x3 hw H.size) (vx_cwSW 2 hts gL_errors_L_fameOf rfl rfl rfl (by decide +kernel) ⟨Nat.le_of_ble_eq_true rfl, Nat.le_of_ble_eq_true rfl⟩) hK hG hP hD hS hA (List.range 51) nd51 (rg51 G a _) rfl hl.1 rfl (Nat.le_of_ble_eq_true rfl) dL_errors_239 ⟨by show _ ≤ 2290; omega, by show _ ≤ 13740; omega⟩) hP hD hS hA (fun r101 o102 H locs hw hP hD hS => ?_)
                            refine lv_ldc2 (v := -9000000000000000001) hx hb hown (hts _ k_L_errors_c29) dL_errors_242 ?_
                            refine W.lcmp hx hb dL_errors_245 ?_
                            refine lv_if_ne (tgt := 314) hx hb dL_errors_246 (by decide) (fun cd103 => ?_) (fun cd103 => ?_)
                            · have hw := hw.1 cd103
                              refine lv_iconst (v := 0) hx hb dL_errors_314 (by decide) ?_
                              refine lv_istore (lv' := [(4, .int (0 : Int32)), (0, .ref (a 0)), (1, .long x1), (3, .int x3)]) hx hb dL_errors_315 hl (by decide) rfl (fun ls hl => ?_)
                              refine lv_iconst (v := 0) hx hb dL_errors_317 (by decide) ?_
                              refine lv_istore (lv' := [(5, .int (0 : Int32)), (4, .int (0 : Int32)), (0, .ref (a 0)), (1, .long x1), (3, .int x3)]) hx hb dL_errors_318 hl (by decide) rfl (fun ls hl => ?_)
                              exact J320 15 _ _ o102 x1 x3 (0 : Int32) (0 : Int32) _ _ _ (by omega) (by omega) (Or.inl rfl) hP hD hS (lv_sub hl [2, 3, 4, 1, 0] rfl) hw
                            · have hw := hw.2 cd103
                              refine lv_aload_n hx hb dL_errors_249 rfl (lv_at hl 0 rfl) ?_
                              refine lv_iload_n hx hb dL_errors_250 rfl (lv_at hl 2 rfl) ?_
                              refine kI_l (kr_SW [] ⟨hx, hb, hml, hown, hts⟩ (cb_L_isBooked l hst G a o102 x3 hw H.size) (vx_cwSW 2 hts gL_errors_L_isBooked rfl rfl rfl (by decide +kernel) ⟨Nat.le_of_ble_eq_true rfl, Nat.le_of_ble_eq_true rfl⟩) hK hG hP hD hS hA (List.range 51) nd51 (rg51 G a _) rfl hl.1 rfl (Nat.le_of_ble_eq_true rfl) dL_errors_251 ⟨by show _ ≤ 2290; omega, by show _ ≤ 13740; omega⟩) hP hD hS hA (fun r104 o105 H locs hw hP hD hS => ?_)
                              refine lv_ldc2 (v := -9000000000000000001) hx hb hown (hts _ k_L_errors_c29) dL_errors_254 ?_
                              refine W.lcmp hx hb dL_errors_257 ?_
                              refine lv_if_ne (tgt := 314) hx hb dL_errors_258 (by decide) (fun cd106 => ?_) (fun cd106 => ?_)
                              · have hw := hw.1 cd106
                                refine lv_iconst (v := 0) hx hb dL_errors_314 (by decide) ?_
                                refine lv_istore (lv' := [(4, .int (0 : Int32)), (0, .ref (a 0)), (1, .long x1), (3, .int x3)]) hx hb dL_errors_315 hl (by decide) rfl (fun ls hl => ?_)
                                refine lv_iconst (v := 0) hx hb dL_errors_317 (by decide) ?_
                                refine lv_istore (lv' := [(5, .int (0 : Int32)), (4, .int (0 : Int32)), (0, .ref (a 0)), (1, .long x1), (3, .int x3)]) hx hb dL_errors_318 hl (by decide) rfl (fun ls hl => ?_)
                                exact J320 15 _ _ o105 x1 x3 (0 : Int32) (0 : Int32) _ _ _ (by omega) (by omega) (Or.inl rfl) hP hD hS (lv_sub hl [2, 3, 4, 1, 0] rfl) hw
                              · have hw := hw.2 cd106
                                refine lv_aload_n hx hb dL_errors_261 rfl (lv_at hl 0 rfl) ?_
                                refine lv_iload_n hx hb dL_errors_262 rfl (lv_at hl 2 rfl) ?_
                                refine lv_iconst (v := 0) hx hb dL_errors_263 (by decide) ?_
                                refine kI_l (kr_SW [] ⟨hx, hb, hml, hown, hts⟩ (cb_L_conflict l hst G a o105 x3 (0 : Int32) hw H.size) (vx_cwSW 3 hts gL_errors_L_conflict rfl rfl rfl (by decide +kernel) ⟨Nat.le_of_ble_eq_true rfl, Nat.le_of_ble_eq_true rfl⟩) hK hG hP hD hS hA (List.range 51) nd51 (rg51 G a _) rfl hl.1 rfl (Nat.le_of_ble_eq_true rfl) dL_errors_264 ⟨by show _ ≤ 2290; omega, by show _ ≤ 13740; omega⟩) hP hD hS hA (fun r107 o108 H locs hw hP hD hS => ?_)
                                refine lv_ldc2 (v := -9000000000000000001) hx hb hown (hts _ k_L_errors_c29) dL_errors_267 ?_
                                refine W.lcmp hx hb dL_errors_270 ?_
                                refine lv_if_ne (tgt := 314) hx hb dL_errors_271 (by decide) (fun cd109 => ?_) (fun cd109 => ?_)
                                · have hw := hw.1 cd109
                                  refine lv_iconst (v := 0) hx hb dL_errors_314 (by decide) ?_
                                  refine lv_istore (lv' := [(4, .int (0 : Int32)), (0, .ref (a 0)), (1, .long x1), (3, .int x3)]) hx hb dL_errors_315 hl (by decide) rfl (fun ls hl => ?_)
                                  refine lv_iconst (v := 0) hx hb dL_errors_317 (by decide) ?_
                                  refine lv_istore (lv' := [(5, .int (0 : Int32)), (4, .int (0 : Int32)), (0, .ref (a 0)), (1, .long x1), (3, .int x3)]) hx hb dL_errors_318 hl (by decide) rfl (fun ls hl => ?_)
                                  exact J320 15 _ _ o108 x1 x3 (0 : Int32) (0 : Int32) _ _ _ (by omega) (by omega) (Or.inl rfl) hP hD hS (lv_sub hl [2, 3, 4, 1, 0] rfl) hw
                                · have hw := hw.2 cd109
                                  refine lv_aload_n hx hb dL_errors_274 rfl (lv_at hl 0 rfl) ?_
                                  refine lv_iload_n hx hb dL_errors_275 rfl (lv_at hl 2 rfl) ?_
                                  refine kI_l (kr_SW [] ⟨hx, hb, hml, hown, hts⟩ (cb_L_conflictsOf l hst G a o108 x3 hw H.size) (vx_cwSW 2 hts gL_errors_L_conflictsOf rfl rfl rfl (by decide +kernel) ⟨Nat.le_of_ble_eq_true rfl, Nat.le_of_ble_eq_true rfl⟩) hK hG hP hD hS hA (List.range 51) nd51 (rg51 G a _) rfl hl.1 rfl (Nat.le_of_ble_eq_true rfl) dL_errors_276 ⟨by show _ ≤ 2290; omega, by show _ ≤ 13740; omega⟩) hP hD hS hA (fun r110 o111 H locs hw hP hD hS => ?_)
                                  refine lv_ldc2 (v := -9000000000000000001) hx hb hown (hts _ k_L_errors_c29) dL_errors_279 ?_
                                  refine W.lcmp hx hb dL_errors_282 ?_
                                  refine lv_if_ne (tgt := 314) hx hb dL_errors_283 (by decide) (fun cd112 => ?_) (fun cd112 => ?_)
                                  · have hw := hw.1 cd112
                                    refine lv_iconst (v := 0) hx hb dL_errors_314 (by decide) ?_
                                    refine lv_istore (lv' := [(4, .int (0 : Int32)), (0, .ref (a 0)), (1, .long x1), (3, .int x3)]) hx hb dL_errors_315 hl (by decide) rfl (fun ls hl => ?_)
                                    refine lv_iconst (v := 0) hx hb dL_errors_317 (by decide) ?_
                                    refine lv_istore (lv' := [(5, .int (0 : Int32)), (4, .int (0 : Int32)), (0, .ref (a 0)), (1, .long x1), (3, .int x3)]) hx hb dL_errors_318 hl (by decide) rfl (fun ls hl => ?_)
                                    exact J320 15 _ _ o111 x1 x3 (0 : Int32) (0 : Int32) _ _ _ (by omega) (by omega) (Or.inl rfl) hP hD hS (lv_sub hl [2, 3, 4, 1, 0] rfl) hw
                                  · have hw := hw.2 cd112
                                    refine lv_aload_n hx hb dL_errors_286 rfl (lv_at hl 0 rfl) ?_
                                    refine lv_iconst (v := -1) hx hb dL_errors_287 (by decide) ?_
                                    refine kI_l (kr_SW [] ⟨hx, hb, hml, hown, hts⟩ (cb_L_roomOf l hst G a o111 (-1 : Int32) hw H.size) (vx_cwSW 2 hts gL_errors_L_roomOf rfl rfl rfl (by decide +kernel) ⟨Nat.le_of_ble_eq_true rfl, Nat.le_of_ble_eq_true rfl⟩) hK hG hP hD hS hA (List.range 51) nd51 (rg51 G a _) rfl hl.1 rfl (Nat.le_of_ble_eq_true rfl) dL_errors_288 ⟨by show _ ≤ 2290; omega, by show _ ≤ 13740; omega⟩) hP hD hS hA (fun r113 o114 H locs hw hP hD hS => ?_)
                                    refine lv_ldc2 (v := -9000000000000000001) hx hb hown (hts _ k_L_errors_c29) dL_errors_291 ?_
                                    refine W.lcmp hx hb dL_errors_294 ?_
                                    refine lv_if_ne (tgt := 314) hx hb dL_errors_295 (by decide) (fun cd115 => ?_) (fun cd115 => ?_)
                                    · have hw := hw.1 cd115
                                      refine lv_iconst (v := 0) hx hb dL_errors_314 (by decide) ?_
                                      refine lv_istore (lv' := [(4, .int (0 : Int32)), (0, .ref (a 0)), (1, .long x1), (3, .int x3)]) hx hb dL_errors_315 hl (by decide) rfl (fun ls hl => ?_)
                                      refine lv_iconst (v := 0) hx hb dL_errors_317 (by decide) ?_
                                      refine lv_istore (lv' := [(5, .int (0 : Int32)), (4, .int (0 : Int32)), (0, .ref (a 0)), (1, .long x1), (3, .int x3)]) hx hb dL_errors_318 hl (by decide) rfl (fun ls hl => ?_)
                                      exact J320 15 _ _ o114 x1 x3 (0 : Int32) (0 : Int32) _ _ _ (by omega) (by omega) (Or.inl rfl) hP hD hS (lv_sub hl [2, 3, 4, 1, 0] rfl) hw
                                    · have hw := hw.2 cd115
                                      refine lv_aload_n hx hb dL_errors_298 rfl (lv_at hl 0 rfl) ?_
                                      refine lv_iload_n hx hb dL_errors_299 rfl (lv_at hl 2 rfl) ?_
                                      refine kI_l (kr_SW [] ⟨hx, hb, hml, hown, hts⟩ (cb_L_bestWith l hst G a o114 x3 hw H.size) (vx_cwSW 2 hts gL_errors_L_bestWith rfl rfl rfl (by decide +kernel) ⟨Nat.le_of_ble_eq_true rfl, Nat.le_of_ble_eq_true rfl⟩) hK hG hP hD hS hA (List.range 51) nd51 (rg51 G a _) rfl hl.1 rfl (Nat.le_of_ble_eq_true rfl) dL_errors_300 ⟨by show _ ≤ 2290; omega, by show _ ≤ 13740; omega⟩) hP hD hS hA (fun r116 o117 H locs hw hP hD hS => ?_)
                                      refine lv_ldc2 (v := -9000000000000000001) hx hb hown (hts _ k_L_errors_c29) dL_errors_303 ?_
                                      refine W.lcmp hx hb dL_errors_306 ?_
                                      refine lv_if_ne (tgt := 314) hx hb dL_errors_307 (by decide) (fun cd118 => ?_) (fun cd118 => ?_)
                                      · have hw := hw.1 cd118
                                        refine lv_iconst (v := 0) hx hb dL_errors_314 (by decide) ?_
                                        refine lv_istore (lv' := [(4, .int (0 : Int32)), (0, .ref (a 0)), (1, .long x1), (3, .int x3)]) hx hb dL_errors_315 hl (by decide) rfl (fun ls hl => ?_)
                                        refine lv_iconst (v := 0) hx hb dL_errors_317 (by decide) ?_
                                        refine lv_istore (lv' := [(5, .int (0 : Int32)), (4, .int (0 : Int32)), (0, .ref (a 0)), (1, .long x1), (3, .int x3)]) hx hb dL_errors_318 hl (by decide) rfl (fun ls hl => ?_)
                                        exact J320 15 _ _ o117 x1 x3 (0 : Int32) (0 : Int32) _ _ _ (by omega) (by omega) (Or.inl rfl) hP hD hS (lv_sub hl [2, 3, 4, 1, 0] rfl) hw
                                      · have hw := hw.2 cd118
                                        refine lv_iconst (v := 1) hx hb dL_errors_310 (by decide) ?_
                                        refine lv_goto (tgt := 315) hx hb dL_errors_311 (by decide) ?_
                                        refine lv_istore (lv' := [(4, .int (1 : Int32)), (0, .ref (a 0)), (1, .long x1), (3, .int x3)]) hx hb dL_errors_315 hl (by decide) rfl (fun ls hl => ?_)
                                        refine lv_iconst (v := 0) hx hb dL_errors_317 (by decide) ?_
                                        refine lv_istore (lv' := [(5, .int (0 : Int32)), (4, .int (1 : Int32)), (0, .ref (a 0)), (1, .long x1), (3, .int x3)]) hx hb dL_errors_318 hl (by decide) rfl (fun ls hl => ?_)
                                        exact J320 15 _ _ o117 x1 x3 (1 : Int32) (0 : Int32) _ _ _ (by omega) (by omega) (Or.inr rfl) hP hD hS (lv_sub hl [2, 3, 4, 1, 0] rfl) hw
  unfold wb_L_errors at hw
  refine lv_aload_n hx hb dL_errors_0 rfl (lv_at hl 0 rfl) ?_
  refine kb_X5_digest a o  hw ⟨hx, hb, hml, hown, hts⟩ (cwV 0 hts gL_errors_X5_digest rfl rfl rfl (by decide +kernel) ⟨Nat.le_of_ble_eq_true rfl, Nat.le_of_ble_eq_true rfl⟩) hK hG hP hD hS hA hl.1 (Nat.le_of_ble_eq_true rfl) dL_errors_1 ⟨by show _ ≤ 2290; omega, by show _ ≤ 13740; omega⟩ (fun r1 o2 H locs hw hP hD hS => ?_)
  refine lv_lstore_n (lv' := [(1, .long r1), (0, .ref (a 0))]) hx hb dL_errors_4 rfl hl (by decide) rfl (fun ls hl => ?_)
  refine lv_aload_n hx hb dL_errors_5 rfl (lv_at hl 1 rfl) ?_
  refine kb_X5_rehearsals a o2  hw ⟨hx, hb, hml, hown, hts⟩ (cwV 0 hts gL_errors_X5_rehearsals rfl rfl rfl (by decide +kernel) ⟨Nat.le_of_ble_eq_true rfl, Nat.le_of_ble_eq_true rfl⟩) hK hG hP hD hS hA hl.1 (Nat.le_of_ble_eq_true rfl) dL_errors_6 ⟨by show _ ≤ 2290; omega, by show _ ≤ 13740; omega⟩ (fun r3 o4 H locs hw hP hD hS => ?_)
  refine lv_istore_n (lv' := [(3, .int r3), (1, .long r1), (0, .ref (a 0))]) hx hb dL_errors_9 rfl hl (by decide) rfl (fun ls hl => ?_)
  refine lv_aload_n hx hb dL_errors_10 rfl (lv_at hl 2 rfl) ?_
  refine lv_iconst (v := -1) hx hb dL_errors_11 (by decide) ?_
  refine lv_iconst (v := 1) hx hb dL_errors_12 (by decide) ?_
  refine lv_iconst (v := 1) hx hb dL_errors_13 (by decide) ?_
  refine kI_l (kr_SW [] ⟨hx, hb, hml, hown, hts⟩ (cb_L_add l hst G a o4 (-1 : Int32) (1 : Int32) (1 : Int32) hw H.size) (vx_cwSW 4 hts gL_errors_L_add rfl rfl rfl (by decide +kernel) ⟨Nat.le_of_ble_eq_true rfl, Nat.le_of_ble_eq_true rfl⟩) hK hG hP hD hS hA (List.range 51) nd51 (rg51 G a _) rfl hl.1 rfl (Nat.le_of_ble_eq_true rfl) dL_errors_14 ⟨by show _ ≤ 2290; omega, by show _ ≤ 13740; omega⟩) hP hD hS hA (fun r5 o6 H locs hw hP hD hS => ?_)
  refine lv_ldc2 (v := -9000000000000000002) hx hb hown (hts _ k_L_errors_c17) dL_errors_17 ?_
  refine W.lcmp hx hb dL_errors_20 ?_
  refine lv_if_ne (tgt := 314) hx hb dL_errors_21 (by decide) (fun cd7 => ?_) (fun cd7 => ?_)
  · have hw := hw.1 cd7
    refine lv_iconst (v := 0) hx hb dL_errors_314 (by decide) ?_
    refine lv_istore (lv' := [(4, .int (0 : Int32)), (3, .int r3), (1, .long r1), (0, .ref (a 0))]) hx hb dL_errors_315 hl (by decide) rfl (fun ls hl => ?_)
    refine lv_iconst (v := 0) hx hb dL_errors_317 (by decide) ?_
    refine lv_istore (lv' := [(5, .int (0 : Int32)), (4, .int (0 : Int32)), (3, .int r3), (1, .long r1), (0, .ref (a 0))]) hx hb dL_errors_318 hl (by decide) rfl (fun ls hl => ?_)
    exact J320 15 _ _ o6 r1 r3 (0 : Int32) (0 : Int32) _ _ _ (by omega) (by omega) (Or.inl rfl) hP hD hS (lv_sub hl [4, 3, 2, 1, 0] rfl) hw
  · have hw := hw.2 cd7
    refine lv_aload_n hx hb dL_errors_24 rfl (lv_at hl 2 rfl) ?_
    refine lv_bipush (v := 96) hx hb dL_errors_25 (by decide) ?_
    refine lv_bipush (v := 97) hx hb dL_errors_27 (by decide) ?_
    refine lv_iconst (v := 1) hx hb dL_errors_29 (by decide) ?_
    refine kI_l (kr_SW [] ⟨hx, hb, hml, hown, hts⟩ (cb_L_add l hst G a o6 (96 : Int32) (97 : Int32) (1 : Int32) hw H.size) (vx_cwSW 4 hts gL_errors_L_add rfl rfl rfl (by decide +kernel) ⟨Nat.le_of_ble_eq_true rfl, Nat.le_of_ble_eq_true rfl⟩) hK hG hP hD hS hA (List.range 51) nd51 (rg51 G a _) rfl hl.1 rfl (Nat.le_of_ble_eq_true rfl) dL_errors_30 ⟨by show _ ≤ 2290; omega, by show _ ≤ 13740; omega⟩) hP hD hS hA (fun r55 o56 H locs hw hP hD hS => ?_)
    refine lv_ldc2 (v := -9000000000000000002) hx hb hown (hts _ k_L_errors_c17) dL_errors_33 ?_
    refine W.lcmp hx hb dL_errors_36 ?_
    refine lv_if_ne (tgt := 314) hx hb dL_errors_37 (by decide) (fun cd57 => ?_) (fun cd57 => ?_)
    · have hw := hw.1 cd57
      refine lv_iconst (v := 0) hx hb dL_errors_314 (by decide) ?_
      refine lv_istore (lv' := [(4, .int (0 : Int32)), (3, .int r3), (1, .long r1), (0, .ref (a 0))]) hx hb dL_errors_315 hl (by decide) rfl (fun ls hl => ?_)
      refine lv_iconst (v := 0) hx hb dL_errors_317 (by decide) ?_
      refine lv_istore (lv' := [(5, .int (0 : Int32)), (4, .int (0 : Int32)), (3, .int r3), (1, .long r1), (0, .ref (a 0))]) hx hb dL_errors_318 hl (by decide) rfl (fun ls hl => ?_)
      exact J320 15 _ _ o56 r1 r3 (0 : Int32) (0 : Int32) _ _ _ (by omega) (by omega) (Or.inl rfl) hP hD hS (lv_sub hl [4, 3, 2, 1, 0] rfl) hw
    · have hw := hw.2 cd57
      refine lv_aload_n hx hb dL_errors_40 rfl (lv_at hl 2 rfl) ?_
      refine lv_iconst (v := 5) hx hb dL_errors_41 (by decide) ?_
      refine lv_iconst (v := 5) hx hb dL_errors_42 (by decide) ?_
      refine lv_iconst (v := 1) hx hb dL_errors_43 (by decide) ?_
      refine kI_l (kr_SW [] ⟨hx, hb, hml, hown, hts⟩ (cb_L_add l hst G a o56 (5 : Int32) (5 : Int32) (1 : Int32) hw H.size) (vx_cwSW 4 hts gL_errors_L_add rfl rfl rfl (by decide +kernel) ⟨Nat.le_of_ble_eq_true rfl, Nat.le_of_ble_eq_true rfl⟩) hK hG hP hD hS hA (List.range 51) nd51 (rg51 G a _) rfl hl.1 rfl (Nat.le_of_ble_eq_true rfl) dL_errors_44 ⟨by show _ ≤ 2290; omega, by show _ ≤ 13740; omega⟩) hP hD hS hA (fun r58 o59 H locs hw hP hD hS => ?_)
      refine lv_ldc2 (v := -9000000000000000002) hx hb hown (hts _ k_L_errors_c17) dL_errors_47 ?_
      refine W.lcmp hx hb dL_errors_50 ?_
      refine lv_if_ne (tgt := 314) hx hb dL_errors_51 (by decide) (fun cd60 => ?_) (fun cd60 => ?_)
      · have hw := hw.1 cd60
        refine lv_iconst (v := 0) hx hb dL_errors_314 (by decide) ?_
        refine lv_istore (lv' := [(4, .int (0 : Int32)), (3, .int r3), (1, .long r1), (0, .ref (a 0))]) hx hb dL_errors_315 hl (by decide) rfl (fun ls hl => ?_)
        refine lv_iconst (v := 0) hx hb dL_errors_317 (by decide) ?_
        refine lv_istore (lv' := [(5, .int (0 : Int32)), (4, .int (0 : Int32)), (3, .int r3), (1, .long r1), (0, .ref (a 0))]) hx hb dL_errors_318 hl (by decide) rfl (fun ls hl => ?_)
        exact J320 15 _ _ o59 r1 r3 (0 : Int32) (0 : Int32) _ _ _ (by omega) (by omega) (Or.inl rfl) hP hD hS (lv_sub hl [4, 3, 2, 1, 0] rfl) hw
      · have hw := hw.2 cd60
        refine lv_aload_n hx hb dL_errors_54 rfl (lv_at hl 2 rfl) ?_
        refine lv_iconst (v := 0) hx hb dL_errors_55 (by decide) ?_
        refine lv_iconst (v := 1) hx hb dL_errors_56 (by decide) ?_
        refine lv_iconst (v := 0) hx hb dL_errors_57 (by decide) ?_
        refine kI_l (kr_SW [] ⟨hx, hb, hml, hown, hts⟩ (cb_L_add l hst G a o59 (0 : Int32) (1 : Int32) (0 : Int32) hw H.size) (vx_cwSW 4 hts gL_errors_L_add rfl rfl rfl (by decide +kernel) ⟨Nat.le_of_ble_eq_true rfl, Nat.le_of_ble_eq_true rfl⟩) hK hG hP hD hS hA (List.range 51) nd51 (rg51 G a _) rfl hl.1 rfl (Nat.le_of_ble_eq_true rfl) dL_errors_58 ⟨by show _ ≤ 2290; omega, by show _ ≤ 13740; omega⟩) hP hD hS hA (fun r61 o62 H locs hw hP hD hS => ?_)
        refine lv_ldc2 (v := -9000000000000000002) hx hb hown (hts _ k_L_errors_c17) dL_errors_61 ?_
        refine W.lcmp hx hb dL_errors_64 ?_
        refine lv_if_ne (tgt := 314) hx hb dL_errors_65 (by decide) (fun cd63 => ?_) (fun cd63 => ?_)
        · have hw := hw.1 cd63
          refine lv_iconst (v := 0) hx hb dL_errors_314 (by decide) ?_
          refine lv_istore (lv' := [(4, .int (0 : Int32)), (3, .int r3), (1, .long r1), (0, .ref (a 0))]) hx hb dL_errors_315 hl (by decide) rfl (fun ls hl => ?_)
          refine lv_iconst (v := 0) hx hb dL_errors_317 (by decide) ?_
          refine lv_istore (lv' := [(5, .int (0 : Int32)), (4, .int (0 : Int32)), (3, .int r3), (1, .long r1), (0, .ref (a 0))]) hx hb dL_errors_318 hl (by decide) rfl (fun ls hl => ?_)
          exact J320 15 _ _ o62 r1 r3 (0 : Int32) (0 : Int32) _ _ _ (by omega) (by omega) (Or.inl rfl) hP hD hS (lv_sub hl [4, 3, 2, 1, 0] rfl) hw
        · have hw := hw.2 cd63
          refine lv_iload_n hx hb dL_errors_68 rfl (lv_at hl 0 rfl) ?_
          refine lv_bipush (v := 14) hx hb dL_errors_69 (by decide) ?_
          refine lv_icmp_lt (tgt := 88) hx hb dL_errors_71 (by decide) (fun cd64 => ?_) (fun cd64 => ?_)
          · have hw := hw.1 cd64
            exact J88 _ _ o62 r1 r3 _ _ _ (by omega) (by omega) hP hD hS (lv_sub hl [2, 1, 0] rfl) hw
          · have hw := hw.2 cd64
            refine lv_aload_n hx hb dL_errors_74 rfl (lv_at hl 2 rfl) ?_
            refine lv_iconst (v := 0) hx hb dL_errors_75 (by decide) ?_
            refine lv_iconst (v := 1) hx hb dL_errors_76 (by decide) ?_
            refine lv_iconst (v := 1) hx hb dL_errors_77 (by decide) ?_
            refine kI_l (kr_SW [] ⟨hx, hb, hml, hown, hts⟩ (cb_L_add l hst G a o62 (0 : Int32) (1 : Int32) (1 : Int32) hw H.size) (vx_cwSW 4 hts gL_errors_L_add rfl rfl rfl (by decide +kernel) ⟨Nat.le_of_ble_eq_true rfl, Nat.le_of_ble_eq_true rfl⟩) hK hG hP hD hS hA (List.range 51) nd51 (rg51 G a _) rfl hl.1 rfl (Nat.le_of_ble_eq_true rfl) dL_errors_78 ⟨by show _ ≤ 2290; omega, by show _ ≤ 13740; omega⟩) hP hD hS hA (fun r119 o120 H locs hw hP hD hS => ?_)
            refine lv_ldc2 (v := -9000000000000000003) hx hb hown (hts _ k_L_errors_c21) dL_errors_81 ?_
            refine W.lcmp hx hb dL_errors_84 ?_
            refine lv_if_ne (tgt := 314) hx hb dL_errors_85 (by decide) (fun cd121 => ?_) (fun cd121 => ?_)
            · have hw := hw.1 cd121
              refine lv_iconst (v := 0) hx hb dL_errors_314 (by decide) ?_
              refine lv_istore (lv' := [(4, .int (0 : Int32)), (3, .int r3), (1, .long r1), (0, .ref (a 0))]) hx hb dL_errors_315 hl (by decide) rfl (fun ls hl => ?_)
              refine lv_iconst (v := 0) hx hb dL_errors_317 (by decide) ?_
              refine lv_istore (lv' := [(5, .int (0 : Int32)), (4, .int (0 : Int32)), (3, .int r3), (1, .long r1), (0, .ref (a 0))]) hx hb dL_errors_318 hl (by decide) rfl (fun ls hl => ?_)
              exact J320 15 _ _ o120 r1 r3 (0 : Int32) (0 : Int32) _ _ _ (by omega) (by omega) (Or.inl rfl) hP hD hS (lv_sub hl [4, 3, 2, 1, 0] rfl) hw
            · have hw := hw.2 cd121
              exact J88 _ _ o120 r1 r3 _ _ _ (by omega) (by omega) hP hD hS (lv_sub hl [2, 1, 0] rfl) hw
