set_option maxRecDepth 100000 in
theorem k_L_kept_c180 : Cond.constantLong RL 180 (50) ∈ wsL_kept := by decide +kernel
set_option maxRecDepth 100000 in
theorem k_L_kept_c172 : Cond.constantLong RL 172 (6) ∈ wsL_kept := by decide +kernel
set_option maxRecDepth 100000 in
theorem k_L_kept_c178 : Cond.constantLong RL 178 (14) ∈ wsL_kept := by decide +kernel
set_option maxHeartbeats 16000000 in
set_option maxRecDepth 100000 in
theorem cb_L_kept (l : Launch) (hst : l.stackTraces = false) (G : mG) (a : Nat → Nat) (o : OB) {Q : Int32 → OB → Prop} (hw : wb_L_kept o Q) (sz : Nat) :
    Met l yL_kept wsL_kept ({ frames := 21, cells := 1320, slots := 7920, locals := 544 } : Room) (va_Pc [.ref (a 0)] (mPre G (wOB G a o) sz)) (va_Qi (fun (r : Int32) (u : OB) => (r = 0 ∨ r = 1) ∧ Q r u) (mBk G (va_A (wOB G a o) sz) (fun (u : OB) => (wOB G a u))) (va_A (wOB G a o) sz)) 1320 7920 (va_A (wOB G a o) sz) := by
  refine ms_i (cc := cL_kept) (maxL := 15) (ret := some .boolean) (post := (fun (r : Int32) (u : OB) => (r = 0 ∨ r = 1) ∧ Q r u)) (w1 := (fun (u : OB) => (wOB G a u))) (by decide) rfl (Nat.le_of_ble_eq_true rfl) ?_ sz
  intro p e s m below meth c A ls H locs hx hb hr hml hown hts hlocks hK hG hP hD hS hA hl
  have hown : s.vm.findClass RL = some m.cls := hown
  have hl : lv_has ls 15 [(0, .ref (a 0))] := hl
  have J532 : ∀ (k z : Nat) (o : OB) (x1 : Int32) (x2 : Int32) (x3 : Int32) (x4 : Int32) (x5 : Int32) (x6 : Int32) (x7 : Int32) (x8 : Int32) (x9 : Int32) (H : Heap) (locs : List Loc) (ls : Array Slot), k + (0) ≤ 1320 → z + 6 * (0) ≤ 7920 → (x3 = 0 ∨ x3 = 1) → va_P (gD G) vwCl (wOB G a o) H → va_D A (wOB G a o) → va_S A s.heap H locs → lv_has ls 15 [(0, .ref (a 0)), (1, .int x1), (2, .int x2), (3, .int x3), (4, .int x4), (5, .int x5), (6, .int x6), (7, .int x7), (8, .int x8), (9, .int x9)] → wj_b_L_kept_532 Q o x1 x2 x3 x4 x5 x6 x7 x8 x9 → W p l e ({ frames := 21, cells := 1320, slots := 7920, locals := 544 } : Room) s m ([.ref (a 0)] : List Value).toArray below meth c H locs k z (MQ below (va_Qi (fun (r : Int32) (u : OB) => (r = 0 ∨ r = 1) ∧ Q r u) (mBk G A (fun (u : OB) => (wOB G a u))) A) ([.ref (a 0)] : List Value).toArray s 1320 7920 A) (F0 m 532 ls []) := by
    intro k z o x1 x2 x3 x4 x5 x6 x7 x8 x9 H locs ls hbk hbz hz_x3 hP hD hS hl hw
    unfold wj_b_L_kept_532 at hw
    refine lv_iload_n hx hb dL_kept_532 rfl (lv_at hl 3 rfl) ?_
    refine lv_if_eq (tgt := 594) hx hb dL_kept_533 (by decide) (fun cd11 => ?_) (fun cd11 => ?_)
    · have hw := hw.1 cd11
      refine lv_iconst (v := 0) hx hb dL_kept_594 (by decide) ?_
      refine W.widen (k := 1320) (n := 7920) (by omega) (by omega) ?_
      exact fin_z o hx hb hr (nz (Or.inl rfl)) hlocks hK hS hP hD ⟨(Or.inl rfl), hw⟩ dL_kept_595
    · have hw := hw.2 cd11
      refine lv_iload hx hb dL_kept_536 (lv_at hl 4 rfl) ?_
      refine lv_aload_n hx hb dL_kept_538 rfl (lv_at hl 0 rfl) ?_
      refine kb_X5_bestByTrying a o  hw ⟨hx, hb, hml, hown, hts⟩ (cwV 0 hts gL_kept_X5_bestByTrying rfl rfl rfl (by decide +kernel) ⟨Nat.le_of_ble_eq_true rfl, Nat.le_of_ble_eq_true rfl⟩) hK hG hP hD hS hA hl.1 (Nat.le_of_ble_eq_true rfl) dL_kept_539 ⟨by show _ ≤ 1320; omega, by show _ ≤ 7920; omega⟩ (fun r12 o13 H locs hw hP hD hS => ?_)
      refine lv_icmp_ne (tgt := 594) hx hb dL_kept_542 (by decide) (fun cd14 => ?_) (fun cd14 => ?_)
      · have hw := hw.1 cd14
        refine lv_iconst (v := 0) hx hb dL_kept_594 (by decide) ?_
        refine W.widen (k := 1320) (n := 7920) (by omega) (by omega) ?_
        exact fin_z o13 hx hb hr (nz (Or.inl rfl)) hlocks hK hS hP hD ⟨(Or.inl rfl), hw⟩ dL_kept_595
      · have hw := hw.2 cd14
        refine lv_iload hx hb dL_kept_545 (lv_at hl 5 rfl) ?_
        refine lv_aload_n hx hb dL_kept_547 rfl (lv_at hl 0 rfl) ?_
        refine kb_X5_bookedFame a o13  hw ⟨hx, hb, hml, hown, hts⟩ (cwV 0 hts gL_kept_X5_bookedFame rfl rfl rfl (by decide +kernel) ⟨Nat.le_of_ble_eq_true rfl, Nat.le_of_ble_eq_true rfl⟩) hK hG hP hD hS hA hl.1 (Nat.le_of_ble_eq_true rfl) dL_kept_548 ⟨by show _ ≤ 1320; omega, by show _ ≤ 7920; omega⟩ (fun r15 o16 H locs hw hP hD hS => ?_)
        refine lv_icmp_ne (tgt := 594) hx hb dL_kept_551 (by decide) (fun cd17 => ?_) (fun cd17 => ?_)
        · have hw := hw.1 cd17
          refine lv_iconst (v := 0) hx hb dL_kept_594 (by decide) ?_
          refine W.widen (k := 1320) (n := 7920) (by omega) (by omega) ?_
          exact fin_z o16 hx hb hr (nz (Or.inl rfl)) hlocks hK hS hP hD ⟨(Or.inl rfl), hw⟩ dL_kept_595
        · have hw := hw.2 cd17
          refine lv_iload hx hb dL_kept_554 (lv_at hl 6 rfl) ?_
          refine lv_aload_n hx hb dL_kept_556 rfl (lv_at hl 0 rfl) ?_
          refine kb_X5_booked a o16  hw ⟨hx, hb, hml, hown, hts⟩ (cwV 0 hts gL_kept_X5_booked rfl rfl rfl (by decide +kernel) ⟨Nat.le_of_ble_eq_true rfl, Nat.le_of_ble_eq_true rfl⟩) hK hG hP hD hS hA hl.1 (Nat.le_of_ble_eq_true rfl) dL_kept_557 ⟨by show _ ≤ 1320; omega, by show _ ≤ 7920; omega⟩ (fun r18 o19 H locs hw hP hD hS => ?_)
          refine lv_icmp_ne (tgt := 594) hx hb dL_kept_560 (by decide) (fun cd20 => ?_) (fun cd20 => ?_)
          · have hw := hw.1 cd20
            refine lv_iconst (v := 0) hx hb dL_kept_594 (by decide) ?_
            refine W.widen (k := 1320) (n := 7920) (by omega) (by omega) ?_
            exact fin_z o19 hx hb hr (nz (Or.inl rfl)) hlocks hK hS hP hD ⟨(Or.inl rfl), hw⟩ dL_kept_595
          · have hw := hw.2 cd20
            refine lv_iload hx hb dL_kept_563 (lv_at hl 7 rfl) ?_
            refine lv_iconst (v := 2) hx hb dL_kept_565 (by decide) ?_
            refine lv_aload_n hx hb dL_kept_566 rfl (lv_at hl 0 rfl) ?_
            refine kb_X5_conflictsByPairs a o19  hw ⟨hx, hb, hml, hown, hts⟩ (cwV 0 hts gL_kept_X5_conflictsByPairs rfl rfl rfl (by decide +kernel) ⟨Nat.le_of_ble_eq_true rfl, Nat.le_of_ble_eq_true rfl⟩) hK hG hP hD hS hA hl.1 (Nat.le_of_ble_eq_true rfl) dL_kept_567 ⟨by show _ ≤ 1320; omega, by show _ ≤ 7920; omega⟩ (fun r21 o22 H locs hw hP hD hS => ?_)
            refine lv_imul hx hb dL_kept_570 ?_
            refine lv_icmp_ne (tgt := 594) hx hb dL_kept_571 (by decide) (fun cd23 => ?_) (fun cd23 => ?_)
            · have hw := hw.1 cd23
              refine lv_iconst (v := 0) hx hb dL_kept_594 (by decide) ?_
              refine W.widen (k := 1320) (n := 7920) (by omega) (by omega) ?_
              exact fin_z o22 hx hb hr (nz (Or.inl rfl)) hlocks hK hS hP hD ⟨(Or.inl rfl), hw⟩ dL_kept_595
            · have hw := hw.2 cd23
              refine lv_iload hx hb dL_kept_574 (lv_at hl 8 rfl) ?_
              refine lv_aload_n hx hb dL_kept_576 rfl (lv_at hl 0 rfl) ?_
              refine kb_X5_roomsByGiving a o22  hw ⟨hx, hb, hml, hown, hts⟩ (cwV 0 hts gL_kept_X5_roomsByGiving rfl rfl rfl (by decide +kernel) ⟨Nat.le_of_ble_eq_true rfl, Nat.le_of_ble_eq_true rfl⟩) hK hG hP hD hS hA hl.1 (Nat.le_of_ble_eq_true rfl) dL_kept_577 ⟨by show _ ≤ 1320; omega, by show _ ≤ 7920; omega⟩ (fun r24 o25 H locs hw hP hD hS => ?_)
              refine lv_icmp_ne (tgt := 594) hx hb dL_kept_580 (by decide) (fun cd26 => ?_) (fun cd26 => ?_)
              · have hw := hw.1 cd26
                refine lv_iconst (v := 0) hx hb dL_kept_594 (by decide) ?_
                refine W.widen (k := 1320) (n := 7920) (by omega) (by omega) ?_
                exact fin_z o25 hx hb hr (nz (Or.inl rfl)) hlocks hK hS hP hD ⟨(Or.inl rfl), hw⟩ dL_kept_595
              · have hw := hw.2 cd26
                refine lv_iload_n hx hb dL_kept_583 rfl (lv_at hl 2 rfl) ?_
                refine lv_iconst (v := 1) hx hb dL_kept_584 (by decide) ?_
                refine lv_iload_n hx hb dL_kept_585 rfl (lv_at hl 1 rfl) ?_
                refine lv_ishl hx hb dL_kept_586 ?_
                refine lv_icmp_ge (tgt := 594) hx hb dL_kept_587 (by decide) (fun cd27 => ?_) (fun cd27 => ?_)
                · have hw := hw.1 cd27
                  refine lv_iconst (v := 0) hx hb dL_kept_594 (by decide) ?_
                  refine W.widen (k := 1320) (n := 7920) (by omega) (by omega) ?_
                  exact fin_z o25 hx hb hr (nz (Or.inl rfl)) hlocks hK hS hP hD ⟨(Or.inl rfl), hw⟩ dL_kept_595
                · have hw := hw.2 cd27
                  refine lv_iconst (v := 1) hx hb dL_kept_590 (by decide) ?_
                  refine lv_goto (tgt := 595) hx hb dL_kept_591 (by decide) ?_
                  refine W.widen (k := 1320) (n := 7920) (by omega) (by omega) ?_
                  exact fin_z o25 hx hb hr (nz (Or.inr rfl)) hlocks hK hS hP hD ⟨(Or.inr rfl), hw⟩ dL_kept_595
  have J520 : ∀ (k168 : OB → Int32 → Int32 → Int32 → Int32 → Int32 → Int32 → Int32 → Int32 → Int32 → Prop) (nn168 : Nat) (hk168 : ∀ (k z : Nat) (o : OB) (x1 : Int32) (x2 : Int32) (x3 : Int32) (x4 : Int32) (x5 : Int32) (x6 : Int32) (x7 : Int32) (x8 : Int32) (x9 : Int32) (H : Heap) (locs : List Loc) (ls : Array Slot), k + nn168 ≤ 1320 → z + 6 * nn168 ≤ 7920 → (x3 = 0 ∨ x3 = 1) → va_P (gD G) vwCl (wOB G a o) H → va_D A (wOB G a o) → va_S A s.heap H locs → lv_has ls 15 [(0, .ref (a 0)), (1, .int x1), (2, .int x2), (3, .int x3), (4, .int x4), (5, .int x5), (6, .int x6), (7, .int x7), (8, .int x8), (9, .int x9)] → k168 o x1 x2 x3 x4 x5 x6 x7 x8 x9 → W p l e ({ frames := 21, cells := 1320, slots := 7920, locals := 544 } : Room) s m ([.ref (a 0)] : List Value).toArray below meth c H locs k z (MQ below (va_Qi (fun (r : Int32) (u : OB) => (r = 0 ∨ r = 1) ∧ Q r u) (mBk G A (fun (u : OB) => (wOB G a u))) A) ([.ref (a 0)] : List Value).toArray s 1320 7920 A) (F0 m 168 ls [])) (k z : Nat) (o : OB) (x1 : Int32) (x2 : Int32) (x3 : Int32) (x4 : Int32) (x5 : Int32) (x6 : Int32) (x7 : Int32) (x8 : Int32) (x9 : Int32) (x10 : Int32) (x11 : Int32) (x12 : Int32) (x13 : Int32) (H : Heap) (locs : List Loc) (ls : Array Slot), k + (0 + nn168) ≤ 1320 → z + 6 * (0 + nn168) ≤ 7920 → (x3 = 0 ∨ x3 = 1) → (x10 = 0 ∨ x10 = 1) → (x11 = 0 ∨ x11 = 1) → va_P (gD G) vwCl (wOB G a o) H → va_D A (wOB G a o) → va_S A s.heap H locs → lv_has ls 15 [(0, .ref (a 0)), (1, .int x1), (2, .int x2), (3, .int x3), (4, .int x4), (5, .int x5), (6, .int x6), (7, .int x7), (8, .int x8), (9, .int x9), (10, .int x10), (11, .int x11), (12, .int x12), (13, .int x13)] → wj_b_L_kept_520 Q k168 o x1 x2 x3 x4 x5 x6 x7 x8 x9 x10 x11 x12 x13 → W p l e ({ frames := 21, cells := 1320, slots := 7920, locals := 544 } : Room) s m ([.ref (a 0)] : List Value).toArray below meth c H locs k z (MQ below (va_Qi (fun (r : Int32) (u : OB) => (r = 0 ∨ r = 1) ∧ Q r u) (mBk G A (fun (u : OB) => (wOB G a u))) A) ([.ref (a 0)] : List Value).toArray s 1320 7920 A) (F0 m 520 ls []) := by
    intro k168 nn168 hk168 k z o x1 x2 x3 x4 x5 x6 x7 x8 x9 x10 x11 x12 x13 H locs ls hbk hbz hz_x3 hz_x10 hz_x11 hP hD hS hl hw
    unfold wj_b_L_kept_520 at hw
    refine lv_iconst (v := 1) hx hb dL_kept_520 (by decide) ?_
    refine lv_goto (tgt := 525) hx hb dL_kept_521 (by decide) ?_
    refine lv_istore_n (lv' := [(3, .int (1 : Int32)), (0, .ref (a 0)), (1, .int x1), (2, .int x2), (4, .int x4), (5, .int x5), (6, .int x6), (7, .int x7), (8, .int x8), (9, .int x9), (10, .int x10), (11, .int x11), (12, .int x12), (13, .int x13)]) hx hb dL_kept_525 rfl hl (by decide) rfl (fun ls hl => ?_)
    refine lv_iinc (v := (x9 + 1)) (lv' := [(9, .int (x9 + 1)), (3, .int (1 : Int32)), (0, .ref (a 0)), (1, .int x1), (2, .int x2), (4, .int x4), (5, .int x5), (6, .int x6), (7, .int x7), (8, .int x8), (10, .int x10), (11, .int x11), (12, .int x12), (13, .int x13)]) hx hb dL_kept_526 hl (k := 9) rfl rfl (by decide) rfl (fun ls hl => ?_)
    refine lv_goto (tgt := 168) hx hb dL_kept_529 (by decide) ?_
    exact hk168 _ _ o x1 x2 (1 : Int32) x4 x5 x6 x7 x8 (x9 + 1) _ _ _ (by omega) (by omega) (Or.inr rfl) hP hD hS (lv_sub hl [2, 3, 4, 1, 5, 6, 7, 8, 9, 0] rfl) hw
  have J413 : ∀ (k168 : OB → Int32 → Int32 → Int32 → Int32 → Int32 → Int32 → Int32 → Int32 → Int32 → Prop) (nn168 : Nat) (hk168 : ∀ (k z : Nat) (o : OB) (x1 : Int32) (x2 : Int32) (x3 : Int32) (x4 : Int32) (x5 : Int32) (x6 : Int32) (x7 : Int32) (x8 : Int32) (x9 : Int32) (H : Heap) (locs : List Loc) (ls : Array Slot), k + nn168 ≤ 1320 → z + 6 * nn168 ≤ 7920 → (x3 = 0 ∨ x3 = 1) → va_P (gD G) vwCl (wOB G a o) H → va_D A (wOB G a o) → va_S A s.heap H locs → lv_has ls 15 [(0, .ref (a 0)), (1, .int x1), (2, .int x2), (3, .int x3), (4, .int x4), (5, .int x5), (6, .int x6), (7, .int x7), (8, .int x8), (9, .int x9)] → k168 o x1 x2 x3 x4 x5 x6 x7 x8 x9 → W p l e ({ frames := 21, cells := 1320, slots := 7920, locals := 544 } : Room) s m ([.ref (a 0)] : List Value).toArray below meth c H locs k z (MQ below (va_Qi (fun (r : Int32) (u : OB) => (r = 0 ∨ r = 1) ∧ Q r u) (mBk G A (fun (u : OB) => (wOB G a u))) A) ([.ref (a 0)] : List Value).toArray s 1320 7920 A) (F0 m 168 ls [])) (k z : Nat) (o : OB) (x1 : Int32) (x2 : Int32) (x3 : Int32) (x4 : Int32) (x5 : Int32) (x6 : Int32) (x7 : Int32) (x8 : Int32) (x9 : Int32) (x10 : Int32) (x11 : Int32) (x12 : Int32) (x13 : Int32) (H : Heap) (locs : List Loc) (ls : Array Slot), k + (8 + nn168) ≤ 1320 → z + 6 * (8 + nn168) ≤ 7920 → (x3 = 0 ∨ x3 = 1) → (x10 = 0 ∨ x10 = 1) → (x11 = 0 ∨ x11 = 1) → va_P (gD G) vwCl (wOB G a o) H → va_D A (wOB G a o) → va_S A s.heap H locs → lv_has ls 15 [(0, .ref (a 0)), (1, .int x1), (2, .int x2), (3, .int x3), (4, .int x4), (5, .int x5), (6, .int x6), (7, .int x7), (8, .int x8), (9, .int x9), (10, .int x10), (11, .int x11), (12, .int x12), (13, .int x13)] → wj_b_L_kept_413 Q k168 o x1 x2 x3 x4 x5 x6 x7 x8 x9 x10 x11 x12 x13 → W p l e ({ frames := 21, cells := 1320, slots := 7920, locals := 544 } : Room) s m ([.ref (a 0)] : List Value).toArray below meth c H locs k z (MQ below (va_Qi (fun (r : Int32) (u : OB) => (r = 0 ∨ r = 1) ∧ Q r u) (mBk G A (fun (u : OB) => (wOB G a u))) A) ([.ref (a 0)] : List Value).toArray s 1320 7920 A) (F0 m 413 ls []) := by
    intro k168 nn168 hk168 k z o x1 x2 x3 x4 x5 x6 x7 x8 x9 x10 x11 x12 x13 H locs ls hbk hbz hz_x3 hz_x10 hz_x11 hP hD hS hl hw
    unfold wj_b_L_kept_413 at hw
    refine lv_iload hx hb dL_kept_413 (lv_at hl 7 rfl) ?_
    refine lv_iload hx hb dL_kept_415 (lv_at hl 12 rfl) ?_
    refine lv_iadd hx hb dL_kept_417 ?_
    refine lv_istore (lv' := [(7, .int (x7 + x12)), (0, .ref (a 0)), (1, .int x1), (2, .int x2), (3, .int x3), (4, .int x4), (5, .int x5), (6, .int x6), (8, .int x8), (9, .int x9), (10, .int x10), (11, .int x11), (12, .int x12), (13, .int x13)]) hx hb dL_kept_418 hl (by decide) rfl (fun ls hl => ?_)
    refine lv_iload_n hx hb dL_kept_420 rfl (lv_at hl 4 rfl) ?_
    refine lv_if_eq (tgt := 524) hx hb dL_kept_421 (by decide) (fun cd40 => ?_) (fun cd40 => ?_)
    · have hw := hw.1 cd40
      refine lv_iconst (v := 0) hx hb dL_kept_524 (by decide) ?_
      refine lv_istore_n (lv' := [(3, .int (0 : Int32)), (7, .int (x7 + x12)), (0, .ref (a 0)), (1, .int x1), (2, .int x2), (4, .int x4), (5, .int x5), (6, .int x6), (8, .int x8), (9, .int x9), (10, .int x10), (11, .int x11), (12, .int x12), (13, .int x13)]) hx hb dL_kept_525 rfl hl (by decide) rfl (fun ls hl => ?_)
      refine lv_iinc (v := (x9 + 1)) (lv' := [(9, .int (x9 + 1)), (3, .int (0 : Int32)), (7, .int (x7 + x12)), (0, .ref (a 0)), (1, .int x1), (2, .int x2), (4, .int x4), (5, .int x5), (6, .int x6), (8, .int x8), (10, .int x10), (11, .int x11), (12, .int x12), (13, .int x13)]) hx hb dL_kept_526 hl (k := 9) rfl rfl (by decide) rfl (fun ls hl => ?_)
      refine lv_goto (tgt := 168) hx hb dL_kept_529 (by decide) ?_
      exact hk168 _ _ o x1 x2 (0 : Int32) x4 x5 x6 (x7 + x12) x8 (x9 + 1) _ _ _ (by omega) (by omega) (Or.inl rfl) hP hD hS (lv_sub hl [3, 4, 5, 1, 6, 7, 8, 2, 9, 0] rfl) hw
    · have hw := hw.2 cd40
      refine lv_aload_n hx hb dL_kept_424 rfl (lv_at hl 1 rfl) ?_
      refine lv_iload hx hb dL_kept_425 (lv_at hl 9 rfl) ?_
      refine kI_l (kr_SW [] ⟨hx, hb, hml, hown, hts⟩ (cb_L_conflictsOf l hst G a o x9 hw H.size) (vx_cwSW 2 hts gL_kept_L_conflictsOf rfl rfl rfl (by decide +kernel) ⟨Nat.le_of_ble_eq_true rfl, Nat.le_of_ble_eq_true rfl⟩) hK hG hP hD hS hA (List.range 51) nd51 (rg51 G a _) rfl hl.1 rfl (Nat.le_of_ble_eq_true rfl) dL_kept_427 ⟨by show _ ≤ 1320; omega, by show _ ≤ 7920; omega⟩) hP hD hS hA (fun r41 o42 H locs hw hP hD hS => ?_)
      refine lv_iload hx hb dL_kept_430 (lv_at hl 12 rfl) ?_
      refine lv_i2l hx hb dL_kept_432 rfl ?_
      refine W.lcmp hx hb dL_kept_433 ?_
      refine lv_if_ne (tgt := 524) hx hb dL_kept_434 (by decide) (fun cd43 => ?_) (fun cd43 => ?_)
      · have hw := hw.1 cd43
        refine lv_iconst (v := 0) hx hb dL_kept_524 (by decide) ?_
        refine lv_istore_n (lv' := [(3, .int (0 : Int32)), (7, .int (x7 + x12)), (0, .ref (a 0)), (1, .int x1), (2, .int x2), (4, .int x4), (5, .int x5), (6, .int x6), (8, .int x8), (9, .int x9), (10, .int x10), (11, .int x11), (12, .int x12), (13, .int x13)]) hx hb dL_kept_525 rfl hl (by decide) rfl (fun ls hl => ?_)
        refine lv_iinc (v := (x9 + 1)) (lv' := [(9, .int (x9 + 1)), (3, .int (0 : Int32)), (7, .int (x7 + x12)), (0, .ref (a 0)), (1, .int x1), (2, .int x2), (4, .int x4), (5, .int x5), (6, .int x6), (8, .int x8), (10, .int x10), (11, .int x11), (12, .int x12), (13, .int x13)]) hx hb dL_kept_526 hl (k := 9) rfl rfl (by decide) rfl (fun ls hl => ?_)
        refine lv_goto (tgt := 168) hx hb dL_kept_529 (by decide) ?_
        exact hk168 _ _ o42 x1 x2 (0 : Int32) x4 x5 x6 (x7 + x12) x8 (x9 + 1) _ _ _ (by omega) (by omega) (Or.inl rfl) hP hD hS (lv_sub hl [3, 4, 5, 1, 6, 7, 8, 2, 9, 0] rfl) hw
      · have hw := hw.2 cd43
        refine lv_aload_n hx hb dL_kept_437 rfl (lv_at hl 1 rfl) ?_
        refine lv_iload hx hb dL_kept_438 (lv_at hl 9 rfl) ?_
        refine kI_l (kr_SW [] ⟨hx, hb, hml, hown, hts⟩ (cb_L_beginOf l hst G a o42 x9 hw H.size) (vx_cwSW 2 hts gL_kept_L_beginOf rfl rfl rfl (by decide +kernel) ⟨Nat.le_of_ble_eq_true rfl, Nat.le_of_ble_eq_true rfl⟩) hK hG hP hD hS hA (List.range 51) nd51 (rg51 G a _) rfl hl.1 rfl (Nat.le_of_ble_eq_true rfl) dL_kept_440 ⟨by show _ ≤ 1320; omega, by show _ ≤ 7920; omega⟩) hP hD hS hA (fun r44 o45 H locs hw hP hD hS => ?_)
        refine lv_aload_n hx hb dL_kept_443 rfl (lv_at hl 1 rfl) ?_
        refine lv_iload hx hb dL_kept_444 (lv_at hl 9 rfl) ?_
        refine kI_l (kr_SW [.long r44] ⟨hx, hb, hml, hown, hts⟩ (cb_L_endOf l hst G a o45 x9 hw H.size) (vx_cwSW 2 hts gL_kept_L_endOf rfl rfl rfl (by decide +kernel) ⟨Nat.le_of_ble_eq_true rfl, Nat.le_of_ble_eq_true rfl⟩) hK hG hP hD hS hA (List.range 51) nd51 (rg51 G a _) rfl hl.1 rfl (Nat.le_of_ble_eq_true rfl) dL_kept_446 ⟨by show _ ≤ 1320; omega, by show _ ≤ 7920; omega⟩) hP hD hS hA (fun r46 o47 H locs hw hP hD hS => ?_)
        refine W.lcmp hx hb dL_kept_449 ?_
        refine lv_if_ge (tgt := 524) hx hb dL_kept_450 (by decide) (fun cd48 => ?_) (fun cd48 => ?_)
        · have hw := hw.1 cd48
          refine lv_iconst (v := 0) hx hb dL_kept_524 (by decide) ?_
          refine lv_istore_n (lv' := [(3, .int (0 : Int32)), (7, .int (x7 + x12)), (0, .ref (a 0)), (1, .int x1), (2, .int x2), (4, .int x4), (5, .int x5), (6, .int x6), (8, .int x8), (9, .int x9), (10, .int x10), (11, .int x11), (12, .int x12), (13, .int x13)]) hx hb dL_kept_525 rfl hl (by decide) rfl (fun ls hl => ?_)
          refine lv_iinc (v := (x9 + 1)) (lv' := [(9, .int (x9 + 1)), (3, .int (0 : Int32)), (7, .int (x7 + x12)), (0, .ref (a 0)), (1, .int x1), (2, .int x2), (4, .int x4), (5, .int x5), (6, .int x6), (8, .int x8), (10, .int x10), (11, .int x11), (12, .int x12), (13, .int x13)]) hx hb dL_kept_526 hl (k := 9) rfl rfl (by decide) rfl (fun ls hl => ?_)
          refine lv_goto (tgt := 168) hx hb dL_kept_529 (by decide) ?_
          exact hk168 _ _ o47 x1 x2 (0 : Int32) x4 x5 x6 (x7 + x12) x8 (x9 + 1) _ _ _ (by omega) (by omega) (Or.inl rfl) hP hD hS (lv_sub hl [3, 4, 5, 1, 6, 7, 8, 2, 9, 0] rfl) hw
        · have hw := hw.2 cd48
          refine lv_aload_n hx hb dL_kept_453 rfl (lv_at hl 1 rfl) ?_
          refine lv_iload hx hb dL_kept_454 (lv_at hl 9 rfl) ?_
          refine kI_l (kr_SW [] ⟨hx, hb, hml, hown, hts⟩ (cb_L_fameOf l hst G a o47 x9 hw H.size) (vx_cwSW 2 hts gL_kept_L_fameOf rfl rfl rfl (by decide +kernel) ⟨Nat.le_of_ble_eq_true rfl, Nat.le_of_ble_eq_true rfl⟩) hK hG hP hD hS hA (List.range 51) nd51 (rg51 G a _) rfl hl.1 rfl (Nat.le_of_ble_eq_true rfl) dL_kept_456 ⟨by show _ ≤ 1320; omega, by show _ ≤ 7920; omega⟩) hP hD hS hA (fun r49 o50 H locs hw hP hD hS => ?_)
          refine lv_lconst (v := 1) hx hb dL_kept_459 (by decide) ?_
          refine lv_ldc2 (v := 50) hx hb hown (hts _ k_L_kept_c180) dL_kept_460 ?_
          refine kcR_i (kr_S [] ⟨hx, hb, hml, hown, hts⟩ (cb_L_in l hst G r49 (1 : Int64) (50 : Int64) hw H.size) (va_cwS 3 hts gL_kept_L_in rfl rfl rfl (by decide +kernel) ⟨Nat.le_of_ble_eq_true rfl, Nat.le_of_ble_eq_true rfl⟩) hK hG hP hD hS hA [] rfl rfl rfl hl.1 rfl (Nat.le_of_ble_eq_true rfl) dL_kept_463 ⟨by show _ ≤ 1320; omega, by show _ ≤ 7920; omega⟩) hP hD hS hA [] rfl (fun r51 u H locs hw hP hS => ?_)
          obtain ⟨hz_r51, hw⟩ := hw
          refine lv_if_eq (tgt := 524) hx hb dL_kept_466 (by decide) (fun cd53 => ?_) (fun cd53 => ?_)
          · have hw := hw.1 cd53
            refine lv_iconst (v := 0) hx hb dL_kept_524 (by decide) ?_
            refine lv_istore_n (lv' := [(3, .int (0 : Int32)), (7, .int (x7 + x12)), (0, .ref (a 0)), (1, .int x1), (2, .int x2), (4, .int x4), (5, .int x5), (6, .int x6), (8, .int x8), (9, .int x9), (10, .int x10), (11, .int x11), (12, .int x12), (13, .int x13)]) hx hb dL_kept_525 rfl hl (by decide) rfl (fun ls hl => ?_)
            refine lv_iinc (v := (x9 + 1)) (lv' := [(9, .int (x9 + 1)), (3, .int (0 : Int32)), (7, .int (x7 + x12)), (0, .ref (a 0)), (1, .int x1), (2, .int x2), (4, .int x4), (5, .int x5), (6, .int x6), (8, .int x8), (10, .int x10), (11, .int x11), (12, .int x12), (13, .int x13)]) hx hb dL_kept_526 hl (k := 9) rfl rfl (by decide) rfl (fun ls hl => ?_)
            refine lv_goto (tgt := 168) hx hb dL_kept_529 (by decide) ?_
            exact hk168 _ _ o50 x1 x2 (0 : Int32) x4 x5 x6 (x7 + x12) x8 (x9 + 1) _ _ _ (by omega) (by omega) (Or.inl rfl) hP hD hS (lv_sub hl [3, 4, 5, 1, 6, 7, 8, 2, 9, 0] rfl) hw
          · have hw := hw.2 cd53
            refine lv_aload_n hx hb dL_kept_469 rfl (lv_at hl 1 rfl) ?_
            refine lv_iload hx hb dL_kept_470 (lv_at hl 9 rfl) ?_
            refine kI_l (kr_SW [] ⟨hx, hb, hml, hown, hts⟩ (cb_L_bestWith l hst G a o50 x9 hw H.size) (vx_cwSW 2 hts gL_kept_L_bestWith rfl rfl rfl (by decide +kernel) ⟨Nat.le_of_ble_eq_true rfl, Nat.le_of_ble_eq_true rfl⟩) hK hG hP hD hS hA (List.range 51) nd51 (rg51 G a _) rfl hl.1 rfl (Nat.le_of_ble_eq_true rfl) dL_kept_472 ⟨by show _ ≤ 1320; omega, by show _ ≤ 7920; omega⟩) hP hD hS hA (fun r54 o55 H locs hw hP hD hS => ?_)
            refine lv_aload_n hx hb dL_kept_475 rfl (lv_at hl 1 rfl) ?_
            refine lv_iload hx hb dL_kept_476 (lv_at hl 9 rfl) ?_
            refine kI_l (kr_SW [.long r54] ⟨hx, hb, hml, hown, hts⟩ (cb_L_fameOf l hst G a o55 x9 hw H.size) (vx_cwSW 2 hts gL_kept_L_fameOf rfl rfl rfl (by decide +kernel) ⟨Nat.le_of_ble_eq_true rfl, Nat.le_of_ble_eq_true rfl⟩) hK hG hP hD hS hA (List.range 51) nd51 (rg51 G a _) rfl hl.1 rfl (Nat.le_of_ble_eq_true rfl) dL_kept_478 ⟨by show _ ≤ 1320; omega, by show _ ≤ 7920; omega⟩) hP hD hS hA (fun r56 o57 H locs hw hP hD hS => ?_)
            refine W.lcmp hx hb dL_kept_481 ?_
            refine lv_if_lt (tgt := 524) hx hb dL_kept_482 (by decide) (fun cd58 => ?_) (fun cd58 => ?_)
            · have hw := hw.1 cd58
              refine lv_iconst (v := 0) hx hb dL_kept_524 (by decide) ?_
              refine lv_istore_n (lv' := [(3, .int (0 : Int32)), (7, .int (x7 + x12)), (0, .ref (a 0)), (1, .int x1), (2, .int x2), (4, .int x4), (5, .int x5), (6, .int x6), (8, .int x8), (9, .int x9), (10, .int x10), (11, .int x11), (12, .int x12), (13, .int x13)]) hx hb dL_kept_525 rfl hl (by decide) rfl (fun ls hl => ?_)
              refine lv_iinc (v := (x9 + 1)) (lv' := [(9, .int (x9 + 1)), (3, .int (0 : Int32)), (7, .int (x7 + x12)), (0, .ref (a 0)), (1, .int x1), (2, .int x2), (4, .int x4), (5, .int x5), (6, .int x6), (8, .int x8), (10, .int x10), (11, .int x11), (12, .int x12), (13, .int x13)]) hx hb dL_kept_526 hl (k := 9) rfl rfl (by decide) rfl (fun ls hl => ?_)
              refine lv_goto (tgt := 168) hx hb dL_kept_529 (by decide) ?_
              exact hk168 _ _ o57 x1 x2 (0 : Int32) x4 x5 x6 (x7 + x12) x8 (x9 + 1) _ _ _ (by omega) (by omega) (Or.inl rfl) hP hD hS (lv_sub hl [3, 4, 5, 1, 6, 7, 8, 2, 9, 0] rfl) hw
            · have hw := hw.2 cd58
              refine lv_aload_n hx hb dL_kept_485 rfl (lv_at hl 1 rfl) ?_
              refine lv_iload hx hb dL_kept_486 (lv_at hl 9 rfl) ?_
              refine kI_l (kr_SW [] ⟨hx, hb, hml, hown, hts⟩ (cb_L_bestWith l hst G a o57 x9 hw H.size) (vx_cwSW 2 hts gL_kept_L_bestWith rfl rfl rfl (by decide +kernel) ⟨Nat.le_of_ble_eq_true rfl, Nat.le_of_ble_eq_true rfl⟩) hK hG hP hD hS hA (List.range 51) nd51 (rg51 G a _) rfl hl.1 rfl (Nat.le_of_ble_eq_true rfl) dL_kept_488 ⟨by show _ ≤ 1320; omega, by show _ ≤ 7920; omega⟩) hP hD hS hA (fun r59 o60 H locs hw hP hD hS => ?_)
              refine lv_aload_n hx hb dL_kept_491 rfl (lv_at hl 1 rfl) ?_
              refine kb_X5_bestByTable a o60  hw ⟨hx, hb, hml, hown, hts⟩ (cwV 0 hts gL_kept_X5_bestByTable rfl rfl rfl (by decide +kernel) ⟨Nat.le_of_ble_eq_true rfl, Nat.le_of_ble_eq_true rfl⟩) hK hG hP hD hS hA hl.1 (Nat.le_of_ble_eq_true rfl) dL_kept_492 ⟨by show _ ≤ 1320; omega, by show _ ≤ 7920; omega⟩ (fun r61 o62 H locs hw hP hD hS => ?_)
              refine lv_i2l hx hb dL_kept_495 rfl ?_
              refine W.lcmp hx hb dL_kept_496 ?_
              refine lv_if_gt (tgt := 524) hx hb dL_kept_497 (by decide) (fun cd63 => ?_) (fun cd63 => ?_)
              · have hw := hw.1 cd63
                refine lv_iconst (v := 0) hx hb dL_kept_524 (by decide) ?_
                refine lv_istore_n (lv' := [(3, .int (0 : Int32)), (7, .int (x7 + x12)), (0, .ref (a 0)), (1, .int x1), (2, .int x2), (4, .int x4), (5, .int x5), (6, .int x6), (8, .int x8), (9, .int x9), (10, .int x10), (11, .int x11), (12, .int x12), (13, .int x13)]) hx hb dL_kept_525 rfl hl (by decide) rfl (fun ls hl => ?_)
                refine lv_iinc (v := (x9 + 1)) (lv' := [(9, .int (x9 + 1)), (3, .int (0 : Int32)), (7, .int (x7 + x12)), (0, .ref (a 0)), (1, .int x1), (2, .int x2), (4, .int x4), (5, .int x5), (6, .int x6), (8, .int x8), (10, .int x10), (11, .int x11), (12, .int x12), (13, .int x13)]) hx hb dL_kept_526 hl (k := 9) rfl rfl (by decide) rfl (fun ls hl => ?_)
                refine lv_goto (tgt := 168) hx hb dL_kept_529 (by decide) ?_
                exact hk168 _ _ o62 x1 x2 (0 : Int32) x4 x5 x6 (x7 + x12) x8 (x9 + 1) _ _ _ (by omega) (by omega) (Or.inl rfl) hP hD hS (lv_sub hl [3, 4, 5, 1, 6, 7, 8, 2, 9, 0] rfl) hw
              · have hw := hw.2 cd63
                refine lv_iload hx hb dL_kept_500 (lv_at hl 10 rfl) ?_
                refine lv_if_eq (tgt := 520) hx hb dL_kept_502 (by decide) (fun cd64 => ?_) (fun cd64 => ?_)
                · have hw := hw.1 cd64
                  exact J520 k168 nn168 hk168 _ _ o62 x1 x2 x3 x4 x5 x6 (x7 + x12) x8 x9 x10 x11 x12 x13 _ _ _ (by omega) (by omega) hz_x3 hz_x10 hz_x11 hP hD hS (lv_sub hl [1, 2, 3, 4, 5, 6, 7, 0, 8, 9, 10, 11, 12, 13] rfl) hw
                · have hw := hw.2 cd64
                  refine lv_aload_n hx hb dL_kept_505 rfl (lv_at hl 1 rfl) ?_
                  refine lv_iload hx hb dL_kept_506 (lv_at hl 9 rfl) ?_
                  refine kI_l (kr_SW [] ⟨hx, hb, hml, hown, hts⟩ (cb_L_bestWith l hst G a o62 x9 hw H.size) (vx_cwSW 2 hts gL_kept_L_bestWith rfl rfl rfl (by decide +kernel) ⟨Nat.le_of_ble_eq_true rfl, Nat.le_of_ble_eq_true rfl⟩) hK hG hP hD hS hA (List.range 51) nd51 (rg51 G a _) rfl hl.1 rfl (Nat.le_of_ble_eq_true rfl) dL_kept_508 ⟨by show _ ≤ 1320; omega, by show _ ≤ 7920; omega⟩) hP hD hS hA (fun r65 o66 H locs hw hP hD hS => ?_)
                  refine lv_aload_n hx hb dL_kept_511 rfl (lv_at hl 1 rfl) ?_
                  refine kb_X5_bestByTable a o66  hw ⟨hx, hb, hml, hown, hts⟩ (cwV 0 hts gL_kept_X5_bestByTable rfl rfl rfl (by decide +kernel) ⟨Nat.le_of_ble_eq_true rfl, Nat.le_of_ble_eq_true rfl⟩) hK hG hP hD hS hA hl.1 (Nat.le_of_ble_eq_true rfl) dL_kept_512 ⟨by show _ ≤ 1320; omega, by show _ ≤ 7920; omega⟩ (fun r67 o68 H locs hw hP hD hS => ?_)
                  refine lv_i2l hx hb dL_kept_515 rfl ?_
                  refine W.lcmp hx hb dL_kept_516 ?_
                  refine lv_if_ne (tgt := 524) hx hb dL_kept_517 (by decide) (fun cd69 => ?_) (fun cd69 => ?_)
                  · have hw := hw.1 cd69
                    refine lv_iconst (v := 0) hx hb dL_kept_524 (by decide) ?_
                    refine lv_istore_n (lv' := [(3, .int (0 : Int32)), (7, .int (x7 + x12)), (0, .ref (a 0)), (1, .int x1), (2, .int x2), (4, .int x4), (5, .int x5), (6, .int x6), (8, .int x8), (9, .int x9), (10, .int x10), (11, .int x11), (12, .int x12), (13, .int x13)]) hx hb dL_kept_525 rfl hl (by decide) rfl (fun ls hl => ?_)
                    refine lv_iinc (v := (x9 + 1)) (lv' := [(9, .int (x9 + 1)), (3, .int (0 : Int32)), (7, .int (x7 + x12)), (0, .ref (a 0)), (1, .int x1), (2, .int x2), (4, .int x4), (5, .int x5), (6, .int x6), (8, .int x8), (10, .int x10), (11, .int x11), (12, .int x12), (13, .int x13)]) hx hb dL_kept_526 hl (k := 9) rfl rfl (by decide) rfl (fun ls hl => ?_)
                    refine lv_goto (tgt := 168) hx hb dL_kept_529 (by decide) ?_
                    exact hk168 _ _ o68 x1 x2 (0 : Int32) x4 x5 x6 (x7 + x12) x8 (x9 + 1) _ _ _ (by omega) (by omega) (Or.inl rfl) hP hD hS (lv_sub hl [3, 4, 5, 1, 6, 7, 8, 2, 9, 0] rfl) hw
                  · have hw := hw.2 cd69
                    exact J520 k168 nn168 hk168 _ _ o68 x1 x2 x3 x4 x5 x6 (x7 + x12) x8 x9 x10 x11 x12 x13 _ _ _ (by omega) (by omega) hz_x3 hz_x10 hz_x11 hP hD hS (lv_sub hl [1, 2, 3, 4, 5, 6, 7, 0, 8, 9, 10, 11, 12, 13] rfl) hw
  have J401 : ∀ (k305 : OB → Int32 → Int32 → Int32 → Int32 → Int32 → Int32 → Int32 → Int32 → Int32 → Int32 → Int32 → Int32 → Int32 → Prop) (nn305 : Nat) (hk305 : ∀ (k z : Nat) (o : OB) (x1 : Int32) (x2 : Int32) (x3 : Int32) (x4 : Int32) (x5 : Int32) (x6 : Int32) (x7 : Int32) (x8 : Int32) (x9 : Int32) (x10 : Int32) (x11 : Int32) (x12 : Int32) (x13 : Int32) (H : Heap) (locs : List Loc) (ls : Array Slot), k + nn305 ≤ 1320 → z + 6 * nn305 ≤ 7920 → (x3 = 0 ∨ x3 = 1) → (x10 = 0 ∨ x10 = 1) → (x11 = 0 ∨ x11 = 1) → va_P (gD G) vwCl (wOB G a o) H → va_D A (wOB G a o) → va_S A s.heap H locs → lv_has ls 15 [(0, .ref (a 0)), (1, .int x1), (2, .int x2), (3, .int x3), (4, .int x4), (5, .int x5), (6, .int x6), (7, .int x7), (8, .int x8), (9, .int x9), (10, .int x10), (11, .int x11), (12, .int x12), (13, .int x13)] → k305 o x1 x2 x3 x4 x5 x6 x7 x8 x9 x10 x11 x12 x13 → W p l e ({ frames := 21, cells := 1320, slots := 7920, locals := 544 } : Room) s m ([.ref (a 0)] : List Value).toArray below meth c H locs k z (MQ below (va_Qi (fun (r : Int32) (u : OB) => (r = 0 ∨ r = 1) ∧ Q r u) (mBk G A (fun (u : OB) => (wOB G a u))) A) ([.ref (a 0)] : List Value).toArray s 1320 7920 A) (F0 m 305 ls [])) (k168 : OB → Int32 → Int32 → Int32 → Int32 → Int32 → Int32 → Int32 → Int32 → Int32 → Prop) (nn168 : Nat) (hk168 : ∀ (k z : Nat) (o : OB) (x1 : Int32) (x2 : Int32) (x3 : Int32) (x4 : Int32) (x5 : Int32) (x6 : Int32) (x7 : Int32) (x8 : Int32) (x9 : Int32) (H : Heap) (locs : List Loc) (ls : Array Slot), k + nn168 ≤ 1320 → z + 6 * nn168 ≤ 7920 → (x3 = 0 ∨ x3 = 1) → va_P (gD G) vwCl (wOB G a o) H → va_D A (wOB G a o) → va_S A s.heap H locs → lv_has ls 15 [(0, .ref (a 0)), (1, .int x1), (2, .int x2), (3, .int x3), (4, .int x4), (5, .int x5), (6, .int x6), (7, .int x7), (8, .int x8), (9, .int x9)] → k168 o x1 x2 x3 x4 x5 x6 x7 x8 x9 → W p l e ({ frames := 21, cells := 1320, slots := 7920, locals := 544 } : Room) s m ([.ref (a 0)] : List Value).toArray below meth c H locs k z (MQ below (va_Qi (fun (r : Int32) (u : OB) => (r = 0 ∨ r = 1) ∧ Q r u) (mBk G A (fun (u : OB) => (wOB G a u))) A) ([.ref (a 0)] : List Value).toArray s 1320 7920 A) (F0 m 168 ls [])) (k z : Nat) (o : OB) (x1 : Int32) (x2 : Int32) (x3 : Int32) (x4 : Int32) (x5 : Int32) (x6 : Int32) (x7 : Int32) (x8 : Int32) (x9 : Int32) (x10 : Int32) (x11 : Int32) (x12 : Int32) (x13 : Int32) (x14 : Int32) (H : Heap) (locs : List Loc) (ls : Array Slot), k + (0 + nn305) ≤ 1320 → z + 6 * (0 + nn305) ≤ 7920 → (x3 = 0 ∨ x3 = 1) → (x10 = 0 ∨ x10 = 1) → (x11 = 0 ∨ x11 = 1) → (x14 = 0 ∨ x14 = 1) → va_P (gD G) vwCl (wOB G a o) H → va_D A (wOB G a o) → va_S A s.heap H locs → lv_has ls 15 [(0, .ref (a 0)), (1, .int x1), (2, .int x2), (3, .int x3), (4, .int x4), (5, .int x5), (6, .int x6), (7, .int x7), (8, .int x8), (9, .int x9), (10, .int x10), (11, .int x11), (12, .int x12), (13, .int x13), (14, .int x14)] → wj_b_L_kept_401 Q k305 k168 o x1 x2 x3 x4 x5 x6 x7 x8 x9 x10 x11 x12 x13 x14 → W p l e ({ frames := 21, cells := 1320, slots := 7920, locals := 544 } : Room) s m ([.ref (a 0)] : List Value).toArray below meth c H locs k z (MQ below (va_Qi (fun (r : Int32) (u : OB) => (r = 0 ∨ r = 1) ∧ Q r u) (mBk G A (fun (u : OB) => (wOB G a u))) A) ([.ref (a 0)] : List Value).toArray s 1320 7920 A) (F0 m 401 ls []) := by
    intro k305 nn305 hk305 k168 nn168 hk168 k z o x1 x2 x3 x4 x5 x6 x7 x8 x9 x10 x11 x12 x13 x14 H locs ls hbk hbz hz_x3 hz_x10 hz_x11 hz_x14 hP hD hS hl hw
    unfold wj_b_L_kept_401 at hw
    refine lv_iconst (v := 1) hx hb dL_kept_401 (by decide) ?_
    refine lv_goto (tgt := 406) hx hb dL_kept_402 (by decide) ?_
    refine lv_istore_n (lv' := [(3, .int (1 : Int32)), (0, .ref (a 0)), (1, .int x1), (2, .int x2), (4, .int x4), (5, .int x5), (6, .int x6), (7, .int x7), (8, .int x8), (9, .int x9), (10, .int x10), (11, .int x11), (12, .int x12), (13, .int x13), (14, .int x14)]) hx hb dL_kept_406 rfl hl (by decide) rfl (fun ls hl => ?_)
    refine lv_iinc (v := (x13 + 1)) (lv' := [(13, .int (x13 + 1)), (3, .int (1 : Int32)), (0, .ref (a 0)), (1, .int x1), (2, .int x2), (4, .int x4), (5, .int x5), (6, .int x6), (7, .int x7), (8, .int x8), (9, .int x9), (10, .int x10), (11, .int x11), (12, .int x12), (14, .int x14)]) hx hb dL_kept_407 hl (k := 13) rfl rfl (by decide) rfl (fun ls hl => ?_)
    refine lv_goto (tgt := 305) hx hb dL_kept_410 (by decide) ?_
    exact hk305 _ _ o x1 x2 (1 : Int32) x4 x5 x6 x7 x8 x9 x10 x11 x12 (x13 + 1) _ _ _ (by omega) (by omega) (Or.inr rfl) hz_x10 hz_x11 hP hD hS (lv_sub hl [2, 3, 4, 1, 5, 6, 7, 8, 9, 10, 11, 12, 13, 0] rfl) hw
  have J385 : ∀ (k305 : OB → Int32 → Int32 → Int32 → Int32 → Int32 → Int32 → Int32 → Int32 → Int32 → Int32 → Int32 → Int32 → Int32 → Prop) (nn305 : Nat) (hk305 : ∀ (k z : Nat) (o : OB) (x1 : Int32) (x2 : Int32) (x3 : Int32) (x4 : Int32) (x5 : Int32) (x6 : Int32) (x7 : Int32) (x8 : Int32) (x9 : Int32) (x10 : Int32) (x11 : Int32) (x12 : Int32) (x13 : Int32) (H : Heap) (locs : List Loc) (ls : Array Slot), k + nn305 ≤ 1320 → z + 6 * nn305 ≤ 7920 → (x3 = 0 ∨ x3 = 1) → (x10 = 0 ∨ x10 = 1) → (x11 = 0 ∨ x11 = 1) → va_P (gD G) vwCl (wOB G a o) H → va_D A (wOB G a o) → va_S A s.heap H locs → lv_has ls 15 [(0, .ref (a 0)), (1, .int x1), (2, .int x2), (3, .int x3), (4, .int x4), (5, .int x5), (6, .int x6), (7, .int x7), (8, .int x8), (9, .int x9), (10, .int x10), (11, .int x11), (12, .int x12), (13, .int x13)] → k305 o x1 x2 x3 x4 x5 x6 x7 x8 x9 x10 x11 x12 x13 → W p l e ({ frames := 21, cells := 1320, slots := 7920, locals := 544 } : Room) s m ([.ref (a 0)] : List Value).toArray below meth c H locs k z (MQ below (va_Qi (fun (r : Int32) (u : OB) => (r = 0 ∨ r = 1) ∧ Q r u) (mBk G A (fun (u : OB) => (wOB G a u))) A) ([.ref (a 0)] : List Value).toArray s 1320 7920 A) (F0 m 305 ls [])) (k168 : OB → Int32 → Int32 → Int32 → Int32 → Int32 → Int32 → Int32 → Int32 → Int32 → Prop) (nn168 : Nat) (hk168 : ∀ (k z : Nat) (o : OB) (x1 : Int32) (x2 : Int32) (x3 : Int32) (x4 : Int32) (x5 : Int32) (x6 : Int32) (x7 : Int32) (x8 : Int32) (x9 : Int32) (H : Heap) (locs : List Loc) (ls : Array Slot), k + nn168 ≤ 1320 → z + 6 * nn168 ≤ 7920 → (x3 = 0 ∨ x3 = 1) → va_P (gD G) vwCl (wOB G a o) H → va_D A (wOB G a o) → va_S A s.heap H locs → lv_has ls 15 [(0, .ref (a 0)), (1, .int x1), (2, .int x2), (3, .int x3), (4, .int x4), (5, .int x5), (6, .int x6), (7, .int x7), (8, .int x8), (9, .int x9)] → k168 o x1 x2 x3 x4 x5 x6 x7 x8 x9 → W p l e ({ frames := 21, cells := 1320, slots := 7920, locals := 544 } : Room) s m ([.ref (a 0)] : List Value).toArray below meth c H locs k z (MQ below (va_Qi (fun (r : Int32) (u : OB) => (r = 0 ∨ r = 1) ∧ Q r u) (mBk G A (fun (u : OB) => (wOB G a u))) A) ([.ref (a 0)] : List Value).toArray s 1320 7920 A) (F0 m 168 ls [])) (k z : Nat) (o : OB) (x1 : Int32) (x2 : Int32) (x3 : Int32) (x4 : Int32) (x5 : Int32) (x6 : Int32) (x7 : Int32) (x8 : Int32) (x9 : Int32) (x10 : Int32) (x11 : Int32) (x12 : Int32) (x13 : Int32) (x14 : Int32) (H : Heap) (locs : List Loc) (ls : Array Slot), k + (2 + nn305) ≤ 1320 → z + 6 * (2 + nn305) ≤ 7920 → (x3 = 0 ∨ x3 = 1) → (x10 = 0 ∨ x10 = 1) → (x11 = 0 ∨ x11 = 1) → (x14 = 0 ∨ x14 = 1) → va_P (gD G) vwCl (wOB G a o) H → va_D A (wOB G a o) → va_S A s.heap H locs → lv_has ls 15 [(0, .ref (a 0)), (1, .int x1), (2, .int x2), (3, .int x3), (4, .int x4), (5, .int x5), (6, .int x6), (7, .int x7), (8, .int x8), (9, .int x9), (10, .int x10), (11, .int x11), (12, .int x12), (13, .int x13), (14, .int x14)] → wj_b_L_kept_385 Q k305 k168 o x1 x2 x3 x4 x5 x6 x7 x8 x9 x10 x11 x12 x13 x14 → W p l e ({ frames := 21, cells := 1320, slots := 7920, locals := 544 } : Room) s m ([.ref (a 0)] : List Value).toArray below meth c H locs k z (MQ below (va_Qi (fun (r : Int32) (u : OB) => (r = 0 ∨ r = 1) ∧ Q r u) (mBk G A (fun (u : OB) => (wOB G a u))) A) ([.ref (a 0)] : List Value).toArray s 1320 7920 A) (F0 m 385 ls []) := by
    intro k305 nn305 hk305 k168 nn168 hk168 k z o x1 x2 x3 x4 x5 x6 x7 x8 x9 x10 x11 x12 x13 x14 H locs ls hbk hbz hz_x3 hz_x10 hz_x11 hz_x14 hP hD hS hl hw
    unfold wj_b_L_kept_385 at hw
    refine lv_aload_n hx hb dL_kept_385 rfl (lv_at hl 0 rfl) ?_
    refine lv_iload hx hb dL_kept_386 (lv_at hl 9 rfl) ?_
    refine kI_l (kr_SW [] ⟨hx, hb, hml, hown, hts⟩ (cb_L_roomOf l hst G a o x9 hw H.size) (vx_cwSW 2 hts gL_kept_L_roomOf rfl rfl rfl (by decide +kernel) ⟨Nat.le_of_ble_eq_true rfl, Nat.le_of_ble_eq_true rfl⟩) hK hG hP hD hS hA (List.range 51) nd51 (rg51 G a _) rfl hl.1 rfl (Nat.le_of_ble_eq_true rfl) dL_kept_388 ⟨by show _ ≤ 1320; omega, by show _ ≤ 7920; omega⟩) hP hD hS hA (fun r78 o79 H locs hw hP hD hS => ?_)
    refine lv_aload_n hx hb dL_kept_391 rfl (lv_at hl 0 rfl) ?_
    refine lv_iload hx hb dL_kept_392 (lv_at hl 13 rfl) ?_
    refine kI_l (kr_SW [.long r78] ⟨hx, hb, hml, hown, hts⟩ (cb_L_roomOf l hst G a o79 x13 hw H.size) (vx_cwSW 2 hts gL_kept_L_roomOf rfl rfl rfl (by decide +kernel) ⟨Nat.le_of_ble_eq_true rfl, Nat.le_of_ble_eq_true rfl⟩) hK hG hP hD hS hA (List.range 51) nd51 (rg51 G a _) rfl hl.1 rfl (Nat.le_of_ble_eq_true rfl) dL_kept_394 ⟨by show _ ≤ 1320; omega, by show _ ≤ 7920; omega⟩) hP hD hS hA (fun r80 o81 H locs hw hP hD hS => ?_)
    refine W.lcmp hx hb dL_kept_397 ?_
    refine lv_if_eq (tgt := 405) hx hb dL_kept_398 (by decide) (fun cd82 => ?_) (fun cd82 => ?_)
    · have hw := hw.1 cd82
      refine lv_iconst (v := 0) hx hb dL_kept_405 (by decide) ?_
      refine lv_istore_n (lv' := [(3, .int (0 : Int32)), (0, .ref (a 0)), (1, .int x1), (2, .int x2), (4, .int x4), (5, .int x5), (6, .int x6), (7, .int x7), (8, .int x8), (9, .int x9), (10, .int x10), (11, .int x11), (12, .int x12), (13, .int x13), (14, .int x14)]) hx hb dL_kept_406 rfl hl (by decide) rfl (fun ls hl => ?_)
      refine lv_iinc (v := (x13 + 1)) (lv' := [(13, .int (x13 + 1)), (3, .int (0 : Int32)), (0, .ref (a 0)), (1, .int x1), (2, .int x2), (4, .int x4), (5, .int x5), (6, .int x6), (7, .int x7), (8, .int x8), (9, .int x9), (10, .int x10), (11, .int x11), (12, .int x12), (14, .int x14)]) hx hb dL_kept_407 hl (k := 13) rfl rfl (by decide) rfl (fun ls hl => ?_)
      refine lv_goto (tgt := 305) hx hb dL_kept_410 (by decide) ?_
      exact hk305 _ _ o81 x1 x2 (0 : Int32) x4 x5 x6 x7 x8 x9 x10 x11 x12 (x13 + 1) _ _ _ (by omega) (by omega) (Or.inl rfl) hz_x10 hz_x11 hP hD hS (lv_sub hl [2, 3, 4, 1, 5, 6, 7, 8, 9, 10, 11, 12, 13, 0] rfl) hw
    · have hw := hw.2 cd82
      exact J401 k305 nn305 hk305 k168 nn168 hk168 _ _ o81 x1 x2 x3 x4 x5 x6 x7 x8 x9 x10 x11 x12 x13 x14 _ _ _ (by omega) (by omega) hz_x3 hz_x10 hz_x11 hz_x14 hP hD hS hl hw
  have J369 : ∀ (k305 : OB → Int32 → Int32 → Int32 → Int32 → Int32 → Int32 → Int32 → Int32 → Int32 → Int32 → Int32 → Int32 → Int32 → Prop) (nn305 : Nat) (hk305 : ∀ (k z : Nat) (o : OB) (x1 : Int32) (x2 : Int32) (x3 : Int32) (x4 : Int32) (x5 : Int32) (x6 : Int32) (x7 : Int32) (x8 : Int32) (x9 : Int32) (x10 : Int32) (x11 : Int32) (x12 : Int32) (x13 : Int32) (H : Heap) (locs : List Loc) (ls : Array Slot), k + nn305 ≤ 1320 → z + 6 * nn305 ≤ 7920 → (x3 = 0 ∨ x3 = 1) → (x10 = 0 ∨ x10 = 1) → (x11 = 0 ∨ x11 = 1) → va_P (gD G) vwCl (wOB G a o) H → va_D A (wOB G a o) → va_S A s.heap H locs → lv_has ls 15 [(0, .ref (a 0)), (1, .int x1), (2, .int x2), (3, .int x3), (4, .int x4), (5, .int x5), (6, .int x6), (7, .int x7), (8, .int x8), (9, .int x9), (10, .int x10), (11, .int x11), (12, .int x12), (13, .int x13)] → k305 o x1 x2 x3 x4 x5 x6 x7 x8 x9 x10 x11 x12 x13 → W p l e ({ frames := 21, cells := 1320, slots := 7920, locals := 544 } : Room) s m ([.ref (a 0)] : List Value).toArray below meth c H locs k z (MQ below (va_Qi (fun (r : Int32) (u : OB) => (r = 0 ∨ r = 1) ∧ Q r u) (mBk G A (fun (u : OB) => (wOB G a u))) A) ([.ref (a 0)] : List Value).toArray s 1320 7920 A) (F0 m 305 ls [])) (k168 : OB → Int32 → Int32 → Int32 → Int32 → Int32 → Int32 → Int32 → Int32 → Int32 → Prop) (nn168 : Nat) (hk168 : ∀ (k z : Nat) (o : OB) (x1 : Int32) (x2 : Int32) (x3 : Int32) (x4 : Int32) (x5 : Int32) (x6 : Int32) (x7 : Int32) (x8 : Int32) (x9 : Int32) (H : Heap) (locs : List Loc) (ls : Array Slot), k + nn168 ≤ 1320 → z + 6 * nn168 ≤ 7920 → (x3 = 0 ∨ x3 = 1) → va_P (gD G) vwCl (wOB G a o) H → va_D A (wOB G a o) → va_S A s.heap H locs → lv_has ls 15 [(0, .ref (a 0)), (1, .int x1), (2, .int x2), (3, .int x3), (4, .int x4), (5, .int x5), (6, .int x6), (7, .int x7), (8, .int x8), (9, .int x9)] → k168 o x1 x2 x3 x4 x5 x6 x7 x8 x9 → W p l e ({ frames := 21, cells := 1320, slots := 7920, locals := 544 } : Room) s m ([.ref (a 0)] : List Value).toArray below meth c H locs k z (MQ below (va_Qi (fun (r : Int32) (u : OB) => (r = 0 ∨ r = 1) ∧ Q r u) (mBk G A (fun (u : OB) => (wOB G a u))) A) ([.ref (a 0)] : List Value).toArray s 1320 7920 A) (F0 m 168 ls [])) (k z : Nat) (o : OB) (x1 : Int32) (x2 : Int32) (x3 : Int32) (x4 : Int32) (x5 : Int32) (x6 : Int32) (x7 : Int32) (x8 : Int32) (x9 : Int32) (x10 : Int32) (x11 : Int32) (x12 : Int32) (x13 : Int32) (x14 : Int32) (H : Heap) (locs : List Loc) (ls : Array Slot), k + (3 + nn305) ≤ 1320 → z + 6 * (3 + nn305) ≤ 7920 → (x3 = 0 ∨ x3 = 1) → (x10 = 0 ∨ x10 = 1) → (x11 = 0 ∨ x11 = 1) → (x14 = 0 ∨ x14 = 1) → va_P (gD G) vwCl (wOB G a o) H → va_D A (wOB G a o) → va_S A s.heap H locs → lv_has ls 15 [(0, .ref (a 0)), (1, .int x1), (2, .int x2), (3, .int x3), (4, .int x4), (5, .int x5), (6, .int x6), (7, .int x7), (8, .int x8), (9, .int x9), (10, .int x10), (11, .int x11), (12, .int x12), (13, .int x13), (14, .int x14)] → wj_b_L_kept_369 Q k305 k168 o x1 x2 x3 x4 x5 x6 x7 x8 x9 x10 x11 x12 x13 x14 → W p l e ({ frames := 21, cells := 1320, slots := 7920, locals := 544 } : Room) s m ([.ref (a 0)] : List Value).toArray below meth c H locs k z (MQ below (va_Qi (fun (r : Int32) (u : OB) => (r = 0 ∨ r = 1) ∧ Q r u) (mBk G A (fun (u : OB) => (wOB G a u))) A) ([.ref (a 0)] : List Value).toArray s 1320 7920 A) (F0 m 369 ls []) := by
    intro k305 nn305 hk305 k168 nn168 hk168 k z o x1 x2 x3 x4 x5 x6 x7 x8 x9 x10 x11 x12 x13 x14 H locs ls hbk hbz hz_x3 hz_x10 hz_x11 hz_x14 hP hD hS hl hw
    unfold wj_b_L_kept_369 at hw
    refine lv_iload hx hb dL_kept_369 (lv_at hl 11 rfl) ?_
    refine lv_if_eq (tgt := 385) hx hb dL_kept_371 (by decide) (fun cd77 => ?_) (fun cd77 => ?_)
    · have hw := hw.1 cd77
      exact J385 k305 nn305 hk305 k168 nn168 hk168 _ _ o x1 x2 x3 x4 x5 x6 x7 x8 x9 x10 x11 x12 x13 x14 _ _ _ (by omega) (by omega) hz_x3 hz_x10 hz_x11 hz_x14 hP hD hS hl hw
    · have hw := hw.2 cd77
      refine lv_aload_n hx hb dL_kept_374 rfl (lv_at hl 0 rfl) ?_
      refine lv_iload hx hb dL_kept_375 (lv_at hl 13 rfl) ?_
      refine kI_l (kr_SW [] ⟨hx, hb, hml, hown, hts⟩ (cb_L_isBooked l hst G a o x13 hw H.size) (vx_cwSW 2 hts gL_kept_L_isBooked rfl rfl rfl (by decide +kernel) ⟨Nat.le_of_ble_eq_true rfl, Nat.le_of_ble_eq_true rfl⟩) hK hG hP hD hS hA (List.range 51) nd51 (rg51 G a _) rfl hl.1 rfl (Nat.le_of_ble_eq_true rfl) dL_kept_377 ⟨by show _ ≤ 1320; omega, by show _ ≤ 7920; omega⟩) hP hD hS hA (fun r83 o84 H locs hw hP hD hS => ?_)
      refine lv_lconst (v := 0) hx hb dL_kept_380 (by decide) ?_
      refine W.lcmp hx hb dL_kept_381 ?_
      refine lv_if_ne (tgt := 405) hx hb dL_kept_382 (by decide) (fun cd85 => ?_) (fun cd85 => ?_)
      · have hw := hw.1 cd85
        refine lv_iconst (v := 0) hx hb dL_kept_405 (by decide) ?_
        refine lv_istore_n (lv' := [(3, .int (0 : Int32)), (0, .ref (a 0)), (1, .int x1), (2, .int x2), (4, .int x4), (5, .int x5), (6, .int x6), (7, .int x7), (8, .int x8), (9, .int x9), (10, .int x10), (11, .int x11), (12, .int x12), (13, .int x13), (14, .int x14)]) hx hb dL_kept_406 rfl hl (by decide) rfl (fun ls hl => ?_)
        refine lv_iinc (v := (x13 + 1)) (lv' := [(13, .int (x13 + 1)), (3, .int (0 : Int32)), (0, .ref (a 0)), (1, .int x1), (2, .int x2), (4, .int x4), (5, .int x5), (6, .int x6), (7, .int x7), (8, .int x8), (9, .int x9), (10, .int x10), (11, .int x11), (12, .int x12), (14, .int x14)]) hx hb dL_kept_407 hl (k := 13) rfl rfl (by decide) rfl (fun ls hl => ?_)
        refine lv_goto (tgt := 305) hx hb dL_kept_410 (by decide) ?_
        exact hk305 _ _ o84 x1 x2 (0 : Int32) x4 x5 x6 x7 x8 x9 x10 x11 x12 (x13 + 1) _ _ _ (by omega) (by omega) (Or.inl rfl) hz_x10 hz_x11 hP hD hS (lv_sub hl [2, 3, 4, 1, 5, 6, 7, 8, 9, 10, 11, 12, 13, 0] rfl) hw
      · have hw := hw.2 cd85
        exact J385 k305 nn305 hk305 k168 nn168 hk168 _ _ o84 x1 x2 x3 x4 x5 x6 x7 x8 x9 x10 x11 x12 x13 x14 _ _ _ (by omega) (by omega) hz_x3 hz_x10 hz_x11 hz_x14 hP hD hS hl hw
  have J347 : ∀ (k305 : OB → Int32 → Int32 → Int32 → Int32 → Int32 → Int32 → Int32 → Int32 → Int32 → Int32 → Int32 → Int32 → Int32 → Prop) (nn305 : Nat) (hk305 : ∀ (k z : Nat) (o : OB) (x1 : Int32) (x2 : Int32) (x3 : Int32) (x4 : Int32) (x5 : Int32) (x6 : Int32) (x7 : Int32) (x8 : Int32) (x9 : Int32) (x10 : Int32) (x11 : Int32) (x12 : Int32) (x13 : Int32) (H : Heap) (locs : List Loc) (ls : Array Slot), k + nn305 ≤ 1320 → z + 6 * nn305 ≤ 7920 → (x3 = 0 ∨ x3 = 1) → (x10 = 0 ∨ x10 = 1) → (x11 = 0 ∨ x11 = 1) → va_P (gD G) vwCl (wOB G a o) H → va_D A (wOB G a o) → va_S A s.heap H locs → lv_has ls 15 [(0, .ref (a 0)), (1, .int x1), (2, .int x2), (3, .int x3), (4, .int x4), (5, .int x5), (6, .int x6), (7, .int x7), (8, .int x8), (9, .int x9), (10, .int x10), (11, .int x11), (12, .int x12), (13, .int x13)] → k305 o x1 x2 x3 x4 x5 x6 x7 x8 x9 x10 x11 x12 x13 → W p l e ({ frames := 21, cells := 1320, slots := 7920, locals := 544 } : Room) s m ([.ref (a 0)] : List Value).toArray below meth c H locs k z (MQ below (va_Qi (fun (r : Int32) (u : OB) => (r = 0 ∨ r = 1) ∧ Q r u) (mBk G A (fun (u : OB) => (wOB G a u))) A) ([.ref (a 0)] : List Value).toArray s 1320 7920 A) (F0 m 305 ls [])) (k168 : OB → Int32 → Int32 → Int32 → Int32 → Int32 → Int32 → Int32 → Int32 → Int32 → Prop) (nn168 : Nat) (hk168 : ∀ (k z : Nat) (o : OB) (x1 : Int32) (x2 : Int32) (x3 : Int32) (x4 : Int32) (x5 : Int32) (x6 : Int32) (x7 : Int32) (x8 : Int32) (x9 : Int32) (H : Heap) (locs : List Loc) (ls : Array Slot), k + nn168 ≤ 1320 → z + 6 * nn168 ≤ 7920 → (x3 = 0 ∨ x3 = 1) → va_P (gD G) vwCl (wOB G a o) H → va_D A (wOB G a o) → va_S A s.heap H locs → lv_has ls 15 [(0, .ref (a 0)), (1, .int x1), (2, .int x2), (3, .int x3), (4, .int x4), (5, .int x5), (6, .int x6), (7, .int x7), (8, .int x8), (9, .int x9)] → k168 o x1 x2 x3 x4 x5 x6 x7 x8 x9 → W p l e ({ frames := 21, cells := 1320, slots := 7920, locals := 544 } : Room) s m ([.ref (a 0)] : List Value).toArray below meth c H locs k z (MQ below (va_Qi (fun (r : Int32) (u : OB) => (r = 0 ∨ r = 1) ∧ Q r u) (mBk G A (fun (u : OB) => (wOB G a u))) A) ([.ref (a 0)] : List Value).toArray s 1320 7920 A) (F0 m 168 ls [])) (k z : Nat) (o : OB) (x1 : Int32) (x2 : Int32) (x3 : Int32) (x4 : Int32) (x5 : Int32) (x6 : Int32) (x7 : Int32) (x8 : Int32) (x9 : Int32) (x10 : Int32) (x11 : Int32) (x12 : Int32) (x13 : Int32) (x14 : Int32) (y0 : Int32) (y1 : Int32) (H : Heap) (locs : List Loc) (ls : Array Slot), k + (3 + nn305) ≤ 1320 → z + 6 * (3 + nn305) ≤ 7920 → (x3 = 0 ∨ x3 = 1) → (x10 = 0 ∨ x10 = 1) → (x11 = 0 ∨ x11 = 1) → (x14 = 0 ∨ x14 = 1) → (y1 = 0 ∨ y1 = 1) → va_P (gD G) vwCl (wOB G a o) H → va_D A (wOB G a o) → va_S A s.heap H locs → lv_has ls 15 [(0, .ref (a 0)), (1, .int x1), (2, .int x2), (3, .int x3), (4, .int x4), (5, .int x5), (6, .int x6), (7, .int x7), (8, .int x8), (9, .int x9), (10, .int x10), (11, .int x11), (12, .int x12), (13, .int x13), (14, .int x14)] → wj_b_L_kept_347 Q k305 k168 o x1 x2 x3 x4 x5 x6 x7 x8 x9 x10 x11 x12 x13 x14 y0 y1 → W p l e ({ frames := 21, cells := 1320, slots := 7920, locals := 544 } : Room) s m ([.ref (a 0)] : List Value).toArray below meth c H locs k z (MQ below (va_Qi (fun (r : Int32) (u : OB) => (r = 0 ∨ r = 1) ∧ Q r u) (mBk G A (fun (u : OB) => (wOB G a u))) A) ([.ref (a 0)] : List Value).toArray s 1320 7920 A) (F0 m 347 ls [.int y1, .int y0]) := by
    intro k305 nn305 hk305 k168 nn168 hk168 k z o x1 x2 x3 x4 x5 x6 x7 x8 x9 x10 x11 x12 x13 x14 y0 y1 H locs ls hbk hbz hz_x3 hz_x10 hz_x11 hz_x14 hz_y1 hP hD hS hl hw
    unfold wj_b_L_kept_347 at hw
    refine lv_iadd hx hb dL_kept_347 ?_
    refine lv_istore (lv' := [(12, .int (y0 + y1)), (0, .ref (a 0)), (1, .int x1), (2, .int x2), (3, .int x3), (4, .int x4), (5, .int x5), (6, .int x6), (7, .int x7), (8, .int x8), (9, .int x9), (10, .int x10), (11, .int x11), (13, .int x13), (14, .int x14)]) hx hb dL_kept_348 hl (by decide) rfl (fun ls hl => ?_)
    refine lv_iload hx hb dL_kept_350 (lv_at hl 14 rfl) ?_
    refine lv_if_eq (tgt := 401) hx hb dL_kept_352 (by decide) (fun cd75 => ?_) (fun cd75 => ?_)
    · have hw := hw.1 cd75
      exact J401 k305 nn305 hk305 k168 nn168 hk168 _ _ o x1 x2 x3 x4 x5 x6 x7 x8 x9 x10 x11 (y0 + y1) x13 x14 _ _ _ (by omega) (by omega) hz_x3 hz_x10 hz_x11 hz_x14 hP hD hS (lv_sub hl [1, 2, 3, 4, 5, 6, 7, 8, 9, 10, 11, 12, 0, 13, 14] rfl) hw
    · have hw := hw.2 cd75
      refine lv_iload hx hb dL_kept_355 (lv_at hl 11 rfl) ?_
      refine lv_if_eq (tgt := 369) hx hb dL_kept_357 (by decide) (fun cd76 => ?_) (fun cd76 => ?_)
      · have hw := hw.1 cd76
        exact J369 k305 nn305 hk305 k168 nn168 hk168 _ _ o x1 x2 x3 x4 x5 x6 x7 x8 x9 x10 x11 (y0 + y1) x13 x14 _ _ _ (by omega) (by omega) hz_x3 hz_x10 hz_x11 hz_x14 hP hD hS (lv_sub hl [1, 2, 3, 4, 5, 6, 7, 8, 9, 10, 11, 12, 0, 13, 14] rfl) hw
      · have hw := hw.2 cd76
        refine lv_iload_n hx hb dL_kept_360 rfl (lv_at hl 3 rfl) ?_
        refine lv_iload hx hb dL_kept_361 (lv_at hl 13 rfl) ?_
        refine lv_ishr hx hb dL_kept_363 ?_
        refine lv_iconst (v := 1) hx hb dL_kept_364 (by decide) ?_
        refine lv_iand hx hb dL_kept_365 ?_
        refine lv_if_ne (tgt := 405) hx hb dL_kept_366 (by decide) (fun cd86 => ?_) (fun cd86 => ?_)
        · have hw := hw.1 cd86
          refine lv_iconst (v := 0) hx hb dL_kept_405 (by decide) ?_
          refine lv_istore_n (lv' := [(3, .int (0 : Int32)), (12, .int (y0 + y1)), (0, .ref (a 0)), (1, .int x1), (2, .int x2), (4, .int x4), (5, .int x5), (6, .int x6), (7, .int x7), (8, .int x8), (9, .int x9), (10, .int x10), (11, .int x11), (13, .int x13), (14, .int x14)]) hx hb dL_kept_406 rfl hl (by decide) rfl (fun ls hl => ?_)
          refine lv_iinc (v := (x13 + 1)) (lv' := [(13, .int (x13 + 1)), (3, .int (0 : Int32)), (12, .int (y0 + y1)), (0, .ref (a 0)), (1, .int x1), (2, .int x2), (4, .int x4), (5, .int x5), (6, .int x6), (7, .int x7), (8, .int x8), (9, .int x9), (10, .int x10), (11, .int x11), (14, .int x14)]) hx hb dL_kept_407 hl (k := 13) rfl rfl (by decide) rfl (fun ls hl => ?_)
          refine lv_goto (tgt := 305) hx hb dL_kept_410 (by decide) ?_
          exact hk305 _ _ o x1 x2 (0 : Int32) x4 x5 x6 x7 x8 x9 x10 x11 (y0 + y1) (x13 + 1) _ _ _ (by omega) (by omega) (Or.inl rfl) hz_x10 hz_x11 hP hD hS (lv_sub hl [3, 4, 5, 1, 6, 7, 8, 9, 10, 11, 12, 13, 2, 0] rfl) hw
        · have hw := hw.2 cd86
          exact J369 k305 nn305 hk305 k168 nn168 hk168 _ _ o x1 x2 x3 x4 x5 x6 x7 x8 x9 x10 x11 (y0 + y1) x13 x14 _ _ _ (by omega) (by omega) hz_x3 hz_x10 hz_x11 hz_x14 hP hD hS (lv_sub hl [1, 2, 3, 4, 5, 6, 7, 8, 9, 10, 11, 12, 0, 13, 14] rfl) hw
  have J333 : ∀ (k305 : OB → Int32 → Int32 → Int32 → Int32 → Int32 → Int32 → Int32 → Int32 → Int32 → Int32 → Int32 → Int32 → Int32 → Prop) (nn305 : Nat) (hk305 : ∀ (k z : Nat) (o : OB) (x1 : Int32) (x2 : Int32) (x3 : Int32) (x4 : Int32) (x5 : Int32) (x6 : Int32) (x7 : Int32) (x8 : Int32) (x9 : Int32) (x10 : Int32) (x11 : Int32) (x12 : Int32) (x13 : Int32) (H : Heap) (locs : List Loc) (ls : Array Slot), k + nn305 ≤ 1320 → z + 6 * nn305 ≤ 7920 → (x3 = 0 ∨ x3 = 1) → (x10 = 0 ∨ x10 = 1) → (x11 = 0 ∨ x11 = 1) → va_P (gD G) vwCl (wOB G a o) H → va_D A (wOB G a o) → va_S A s.heap H locs → lv_has ls 15 [(0, .ref (a 0)), (1, .int x1), (2, .int x2), (3, .int x3), (4, .int x4), (5, .int x5), (6, .int x6), (7, .int x7), (8, .int x8), (9, .int x9), (10, .int x10), (11, .int x11), (12, .int x12), (13, .int x13)] → k305 o x1 x2 x3 x4 x5 x6 x7 x8 x9 x10 x11 x12 x13 → W p l e ({ frames := 21, cells := 1320, slots := 7920, locals := 544 } : Room) s m ([.ref (a 0)] : List Value).toArray below meth c H locs k z (MQ below (va_Qi (fun (r : Int32) (u : OB) => (r = 0 ∨ r = 1) ∧ Q r u) (mBk G A (fun (u : OB) => (wOB G a u))) A) ([.ref (a 0)] : List Value).toArray s 1320 7920 A) (F0 m 305 ls [])) (k168 : OB → Int32 → Int32 → Int32 → Int32 → Int32 → Int32 → Int32 → Int32 → Int32 → Prop) (nn168 : Nat) (hk168 : ∀ (k z : Nat) (o : OB) (x1 : Int32) (x2 : Int32) (x3 : Int32) (x4 : Int32) (x5 : Int32) (x6 : Int32) (x7 : Int32) (x8 : Int32) (x9 : Int32) (H : Heap) (locs : List Loc) (ls : Array Slot), k + nn168 ≤ 1320 → z + 6 * nn168 ≤ 7920 → (x3 = 0 ∨ x3 = 1) → va_P (gD G) vwCl (wOB G a o) H → va_D A (wOB G a o) → va_S A s.heap H locs → lv_has ls 15 [(0, .ref (a 0)), (1, .int x1), (2, .int x2), (3, .int x3), (4, .int x4), (5, .int x5), (6, .int x6), (7, .int x7), (8, .int x8), (9, .int x9)] → k168 o x1 x2 x3 x4 x5 x6 x7 x8 x9 → W p l e ({ frames := 21, cells := 1320, slots := 7920, locals := 544 } : Room) s m ([.ref (a 0)] : List Value).toArray below meth c H locs k z (MQ below (va_Qi (fun (r : Int32) (u : OB) => (r = 0 ∨ r = 1) ∧ Q r u) (mBk G A (fun (u : OB) => (wOB G a u))) A) ([.ref (a 0)] : List Value).toArray s 1320 7920 A) (F0 m 168 ls [])) (k z : Nat) (o : OB) (x1 : Int32) (x2 : Int32) (x3 : Int32) (x4 : Int32) (x5 : Int32) (x6 : Int32) (x7 : Int32) (x8 : Int32) (x9 : Int32) (x10 : Int32) (x11 : Int32) (x12 : Int32) (x13 : Int32) (y0 : Int32) (H : Heap) (locs : List Loc) (ls : Array Slot), k + (3 + nn305) ≤ 1320 → z + 6 * (3 + nn305) ≤ 7920 → (x3 = 0 ∨ x3 = 1) → (x10 = 0 ∨ x10 = 1) → (x11 = 0 ∨ x11 = 1) → (y0 = 0 ∨ y0 = 1) → va_P (gD G) vwCl (wOB G a o) H → va_D A (wOB G a o) → va_S A s.heap H locs → lv_has ls 15 [(0, .ref (a 0)), (1, .int x1), (2, .int x2), (3, .int x3), (4, .int x4), (5, .int x5), (6, .int x6), (7, .int x7), (8, .int x8), (9, .int x9), (10, .int x10), (11, .int x11), (12, .int x12), (13, .int x13)] → wj_b_L_kept_333 Q k305 k168 o x1 x2 x3 x4 x5 x6 x7 x8 x9 x10 x11 x12 x13 y0 → W p l e ({ frames := 21, cells := 1320, slots := 7920, locals := 544 } : Room) s m ([.ref (a 0)] : List Value).toArray below meth c H locs k z (MQ below (va_Qi (fun (r : Int32) (u : OB) => (r = 0 ∨ r = 1) ∧ Q r u) (mBk G A (fun (u : OB) => (wOB G a u))) A) ([.ref (a 0)] : List Value).toArray s 1320 7920 A) (F0 m 333 ls [.int y0]) := by
    intro k305 nn305 hk305 k168 nn168 hk168 k z o x1 x2 x3 x4 x5 x6 x7 x8 x9 x10 x11 x12 x13 y0 H locs ls hbk hbz hz_x3 hz_x10 hz_x11 hz_y0 hP hD hS hl hw
    unfold wj_b_L_kept_333 at hw
    refine lv_istore (lv' := [(14, .int y0), (0, .ref (a 0)), (1, .int x1), (2, .int x2), (3, .int x3), (4, .int x4), (5, .int x5), (6, .int x6), (7, .int x7), (8, .int x8), (9, .int x9), (10, .int x10), (11, .int x11), (12, .int x12), (13, .int x13)]) hx hb dL_kept_333 hl (by decide) rfl (fun ls hl => ?_)
    refine lv_iload hx hb dL_kept_335 (lv_at hl 13 rfl) ?_
    refine lv_iload hx hb dL_kept_337 (lv_at hl 0 rfl) ?_
    refine lv_if_eq (tgt := 346) hx hb dL_kept_339 (by decide) (fun cd74 => ?_) (fun cd74 => ?_)
    · have hw := hw.1 cd74
      refine lv_iconst (v := 0) hx hb dL_kept_346 (by decide) ?_
      exact J347 k305 nn305 hk305 k168 nn168 hk168 _ _ o x1 x2 x3 x4 x5 x6 x7 x8 x9 x10 x11 x12 x13 y0 x12 (0 : Int32) _ _ _ (by omega) (by omega) hz_x3 hz_x10 hz_x11 hz_y0 (Or.inl rfl) hP hD hS (lv_sub hl [1, 2, 3, 4, 5, 6, 7, 8, 9, 10, 11, 12, 13, 14, 0] rfl) hw
    · have hw := hw.2 cd74
      refine lv_iconst (v := 1) hx hb dL_kept_342 (by decide) ?_
      refine lv_goto (tgt := 347) hx hb dL_kept_343 (by decide) ?_
      exact J347 k305 nn305 hk305 k168 nn168 hk168 _ _ o x1 x2 x3 x4 x5 x6 x7 x8 x9 x10 x11 x12 x13 y0 x12 (1 : Int32) _ _ _ (by omega) (by omega) hz_x3 hz_x10 hz_x11 hz_y0 (Or.inr rfl) hP hD hS (lv_sub hl [1, 2, 3, 4, 5, 6, 7, 8, 9, 10, 11, 12, 13, 14, 0] rfl) hw
  have J305 : ∀ (k168 : OB → Int32 → Int32 → Int32 → Int32 → Int32 → Int32 → Int32 → Int32 → Int32 → Prop) (nn168 : Nat) (hk168 : ∀ (k z : Nat) (o : OB) (x1 : Int32) (x2 : Int32) (x3 : Int32) (x4 : Int32) (x5 : Int32) (x6 : Int32) (x7 : Int32) (x8 : Int32) (x9 : Int32) (H : Heap) (locs : List Loc) (ls : Array Slot), k + nn168 ≤ 1320 → z + 6 * nn168 ≤ 7920 → (x3 = 0 ∨ x3 = 1) → va_P (gD G) vwCl (wOB G a o) H → va_D A (wOB G a o) → va_S A s.heap H locs → lv_has ls 15 [(0, .ref (a 0)), (1, .int x1), (2, .int x2), (3, .int x3), (4, .int x4), (5, .int x5), (6, .int x6), (7, .int x7), (8, .int x8), (9, .int x9)] → k168 o x1 x2 x3 x4 x5 x6 x7 x8 x9 → W p l e ({ frames := 21, cells := 1320, slots := 7920, locals := 544 } : Room) s m ([.ref (a 0)] : List Value).toArray below meth c H locs k z (MQ below (va_Qi (fun (r : Int32) (u : OB) => (r = 0 ∨ r = 1) ∧ Q r u) (mBk G A (fun (u : OB) => (wOB G a u))) A) ([.ref (a 0)] : List Value).toArray s 1320 7920 A) (F0 m 168 ls [])) (n : Nat) (k z : Nat) (o : OB) (x1 : Int32) (x2 : Int32) (x3 : Int32) (x4 : Int32) (x5 : Int32) (x6 : Int32) (x7 : Int32) (x8 : Int32) (x9 : Int32) (x10 : Int32) (x11 : Int32) (x12 : Int32) (x13 : Int32) (H : Heap) (locs : List Loc) (ls : Array Slot), k + (n * 5 + 8 + nn168) ≤ 1320 → z + 6 * (n * 5 + 8 + nn168) ≤ 7920 → (x3 = 0 ∨ x3 = 1) → (x10 = 0 ∨ x10 = 1) → (x11 = 0 ∨ x11 = 1) → va_P (gD G) vwCl (wOB G a o) H → va_D A (wOB G a o) → va_S A s.heap H locs → lv_has ls 15 [(0, .ref (a 0)), (1, .int x1), (2, .int x2), (3, .int x3), (4, .int x4), (5, .int x5), (6, .int x6), (7, .int x7), (8, .int x8), (9, .int x9), (10, .int x10), (11, .int x11), (12, .int x12), (13, .int x13)] → wl_b_L_kept_305 Q k168 n o x1 x2 x3 x4 x5 x6 x7 x8 x9 x10 x11 x12 x13 → W p l e ({ frames := 21, cells := 1320, slots := 7920, locals := 544 } : Room) s m ([.ref (a 0)] : List Value).toArray below meth c H locs k z (MQ below (va_Qi (fun (r : Int32) (u : OB) => (r = 0 ∨ r = 1) ∧ Q r u) (mBk G A (fun (u : OB) => (wOB G a u))) A) ([.ref (a 0)] : List Value).toArray s 1320 7920 A) (F0 m 305 ls []) := by
    intro k168 nn168 hk168 n
    induction n with
    | zero => intro k z o x1 x2 x3 x4 x5 x6 x7 x8 x9 x10 x11 x12 x13 H locs ls hbk hbz hz_x3 hz_x10 hz_x11 hP hD hS hl hw; exact False.elim hw
    | succ n ih =>
      intro k z o x1 x2 x3 x4 x5 x6 x7 x8 x9 x10 x11 x12 x13 H locs ls hbk hbz hz_x3 hz_x10 hz_x11 hP hD hS hl hw
      rw [wl_b_L_kept_305] at hw
      refine lv_iload hx hb dL_kept_305 (lv_at hl 13 rfl) ?_
      refine lv_iload_n hx hb dL_kept_307 rfl (lv_at hl 1 rfl) ?_
      refine lv_icmp_ge (tgt := 413) hx hb dL_kept_308 (by decide) (fun cd39 => ?_) (fun cd39 => ?_)
      · have hw := hw.1 cd39
        exact J413 k168 nn168 hk168 _ _ o x1 x2 x3 x4 x5 x6 x7 x8 x9 x10 x11 x12 x13 _ _ _ (by omega) (by omega) hz_x3 hz_x10 hz_x11 hP hD hS hl hw
      · have hw := hw.2 cd39
        refine lv_iload_n hx hb dL_kept_311 rfl (lv_at hl 3 rfl) ?_
        refine lv_if_eq (tgt := 413) hx hb dL_kept_312 (by decide) (fun cd70 => ?_) (fun cd70 => ?_)
        · have hw := hw.1 cd70
          exact J413 k168 nn168 hk168 _ _ o x1 x2 x3 x4 x5 x6 x7 x8 x9 x10 x11 x12 x13 _ _ _ (by omega) (by omega) hz_x3 hz_x10 hz_x11 hP hD hS hl hw
        · have hw := hw.2 cd70
          refine lv_aload_n hx hb dL_kept_315 rfl (lv_at hl 0 rfl) ?_
          refine lv_iload hx hb dL_kept_316 (lv_at hl 9 rfl) ?_
          refine lv_iload hx hb dL_kept_318 (lv_at hl 13 rfl) ?_
          refine kI_l (kr_SW [] ⟨hx, hb, hml, hown, hts⟩ (cb_L_conflict l hst G a o x9 x13 hw H.size) (vx_cwSW 3 hts gL_kept_L_conflict rfl rfl rfl (by decide +kernel) ⟨Nat.le_of_ble_eq_true rfl, Nat.le_of_ble_eq_true rfl⟩) hK hG hP hD hS hA (List.range 51) nd51 (rg51 G a _) rfl hl.1 rfl (Nat.le_of_ble_eq_true rfl) dL_kept_320 ⟨by show _ ≤ 1320; omega, by show _ ≤ 7920; omega⟩) hP hD hS hA (fun r71 o72 H locs hw hP hD hS => ?_)
          refine lv_lconst (v := 1) hx hb dL_kept_323 (by decide) ?_
          refine W.lcmp hx hb dL_kept_324 ?_
          refine lv_if_ne (tgt := 332) hx hb dL_kept_325 (by decide) (fun cd73 => ?_) (fun cd73 => ?_)
          · have hw := hw.1 cd73
            refine lv_iconst (v := 0) hx hb dL_kept_332 (by decide) ?_
            exact J333 (fun (z0 : OB) (z1 : Int32) (z2 : Int32) (z3 : Int32) (z4 : Int32) (z5 : Int32) (z6 : Int32) (z7 : Int32) (z8 : Int32) (z9 : Int32) (z10 : Int32) (z11 : Int32) (z12 : Int32) (z13 : Int32) => wl_b_L_kept_305 Q k168 n z0 z1 z2 z3 z4 z5 z6 z7 z8 z9 z10 z11 z12 z13) (n * 5 + 8 + nn168) ih k168 nn168 hk168 _ _ o72 x1 x2 x3 x4 x5 x6 x7 x8 x9 x10 x11 x12 x13 (0 : Int32) _ _ _ (by omega) (by omega) hz_x3 hz_x10 hz_x11 (Or.inl rfl) hP hD hS hl hw
          · have hw := hw.2 cd73
            refine lv_iconst (v := 1) hx hb dL_kept_328 (by decide) ?_
            refine lv_goto (tgt := 333) hx hb dL_kept_329 (by decide) ?_
            exact J333 (fun (z0 : OB) (z1 : Int32) (z2 : Int32) (z3 : Int32) (z4 : Int32) (z5 : Int32) (z6 : Int32) (z7 : Int32) (z8 : Int32) (z9 : Int32) (z10 : Int32) (z11 : Int32) (z12 : Int32) (z13 : Int32) => wl_b_L_kept_305 Q k168 n z0 z1 z2 z3 z4 z5 z6 z7 z8 z9 z10 z11 z12 z13) (n * 5 + 8 + nn168) ih k168 nn168 hk168 _ _ o72 x1 x2 x3 x4 x5 x6 x7 x8 x9 x10 x11 x12 x13 (1 : Int32) _ _ _ (by omega) (by omega) hz_x3 hz_x10 hz_x11 (Or.inr rfl) hP hD hS hl hw
  have J270 : ∀ (k168 : OB → Int32 → Int32 → Int32 → Int32 → Int32 → Int32 → Int32 → Int32 → Int32 → Prop) (nn168 : Nat) (hk168 : ∀ (k z : Nat) (o : OB) (x1 : Int32) (x2 : Int32) (x3 : Int32) (x4 : Int32) (x5 : Int32) (x6 : Int32) (x7 : Int32) (x8 : Int32) (x9 : Int32) (H : Heap) (locs : List Loc) (ls : Array Slot), k + nn168 ≤ 1320 → z + 6 * nn168 ≤ 7920 → (x3 = 0 ∨ x3 = 1) → va_P (gD G) vwCl (wOB G a o) H → va_D A (wOB G a o) → va_S A s.heap H locs → lv_has ls 15 [(0, .ref (a 0)), (1, .int x1), (2, .int x2), (3, .int x3), (4, .int x4), (5, .int x5), (6, .int x6), (7, .int x7), (8, .int x8), (9, .int x9)] → k168 o x1 x2 x3 x4 x5 x6 x7 x8 x9 → W p l e ({ frames := 21, cells := 1320, slots := 7920, locals := 544 } : Room) s m ([.ref (a 0)] : List Value).toArray below meth c H locs k z (MQ below (va_Qi (fun (r : Int32) (u : OB) => (r = 0 ∨ r = 1) ∧ Q r u) (mBk G A (fun (u : OB) => (wOB G a u))) A) ([.ref (a 0)] : List Value).toArray s 1320 7920 A) (F0 m 168 ls [])) (k z : Nat) (o : OB) (x1 : Int32) (x2 : Int32) (x3 : Int32) (x4 : Int32) (x5 : Int32) (x6 : Int32) (x7 : Int32) (x8 : Int32) (x9 : Int32) (x10 : Int32) (x11 : Int32) (x12 : Int32) (y0 : Int32) (y1 : Int32) (H : Heap) (locs : List Loc) (ls : Array Slot), k + (85 + nn168) ≤ 1320 → z + 6 * (85 + nn168) ≤ 7920 → (x3 = 0 ∨ x3 = 1) → (x10 = 0 ∨ x10 = 1) → (x11 = 0 ∨ x11 = 1) → (x12 = 0 ∨ x12 = 1) → (y1 = 0 ∨ y1 = 1) → va_P (gD G) vwCl (wOB G a o) H → va_D A (wOB G a o) → va_S A s.heap H locs → lv_has ls 15 [(0, .ref (a 0)), (1, .int x1), (2, .int x2), (3, .int x3), (4, .int x4), (5, .int x5), (6, .int x6), (7, .int x7), (8, .int x8), (9, .int x9), (10, .int x10), (11, .int x11), (12, .int x12)] → wj_b_L_kept_270 Q k168 o x1 x2 x3 x4 x5 x6 x7 x8 x9 x10 x11 x12 y0 y1 → W p l e ({ frames := 21, cells := 1320, slots := 7920, locals := 544 } : Room) s m ([.ref (a 0)] : List Value).toArray below meth c H locs k z (MQ below (va_Qi (fun (r : Int32) (u : OB) => (r = 0 ∨ r = 1) ∧ Q r u) (mBk G A (fun (u : OB) => (wOB G a u))) A) ([.ref (a 0)] : List Value).toArray s 1320 7920 A) (F0 m 270 ls [.int y1, .int y0]) := by
    intro k168 nn168 hk168 k z o x1 x2 x3 x4 x5 x6 x7 x8 x9 x10 x11 x12 y0 y1 H locs ls hbk hbz hz_x3 hz_x10 hz_x11 hz_x12 hz_y1 hP hD hS hl hw
    unfold wj_b_L_kept_270 at hw
    refine lv_iadd hx hb dL_kept_270 ?_
    refine lv_istore (lv' := [(6, .int (y0 + y1)), (0, .ref (a 0)), (1, .int x1), (2, .int x2), (3, .int x3), (4, .int x4), (5, .int x5), (7, .int x7), (8, .int x8), (9, .int x9), (10, .int x10), (11, .int x11), (12, .int x12)]) hx hb dL_kept_271 hl (by decide) rfl (fun ls hl => ?_)
    refine lv_aload_n hx hb dL_kept_273 rfl (lv_at hl 1 rfl) ?_
    refine lv_iload hx hb dL_kept_274 (lv_at hl 9 rfl) ?_
    refine kI_l (kr_SW [] ⟨hx, hb, hml, hown, hts⟩ (cb_L_roomOf l hst G a o x9 hw H.size) (vx_cwSW 2 hts gL_kept_L_roomOf rfl rfl rfl (by decide +kernel) ⟨Nat.le_of_ble_eq_true rfl, Nat.le_of_ble_eq_true rfl⟩) hK hG hP hD hS hA (List.range 51) nd51 (rg51 G a _) rfl hl.1 rfl (Nat.le_of_ble_eq_true rfl) dL_kept_276 ⟨by show _ ≤ 1320; omega, by show _ ≤ 7920; omega⟩) hP hD hS hA (fun r36 o37 H locs hw hP hD hS => ?_)
    refine lv_iload hx hb dL_kept_279 (lv_at hl 8 rfl) ?_
    refine lv_i2l hx hb dL_kept_281 rfl ?_
    refine W.lcmp hx hb dL_kept_282 ?_
    refine lv_if_lt (tgt := 298) hx hb dL_kept_283 (by decide) (fun cd38 => ?_) (fun cd38 => ?_)
    · have hw := hw.1 cd38
      refine lv_iload hx hb dL_kept_298 (lv_at hl 8 rfl) ?_
      refine lv_istore (lv' := [(8, .int x8), (6, .int (y0 + y1)), (0, .ref (a 0)), (1, .int x1), (2, .int x2), (3, .int x3), (4, .int x4), (5, .int x5), (7, .int x7), (9, .int x9), (10, .int x10), (11, .int x11), (12, .int x12)]) hx hb dL_kept_300 hl (by decide) rfl (fun ls hl => ?_)
      refine lv_iconst (v := 0) hx hb dL_kept_302 (by decide) ?_
      refine lv_istore (lv' := [(13, .int (0 : Int32)), (8, .int x8), (6, .int (y0 + y1)), (0, .ref (a 0)), (1, .int x1), (2, .int x2), (3, .int x3), (4, .int x4), (5, .int x5), (7, .int x7), (9, .int x9), (10, .int x10), (11, .int x11), (12, .int x12)]) hx hb dL_kept_303 hl (by decide) rfl (fun ls hl => ?_)
      exact J305 k168 nn168 hk168 15 _ _ o37 x1 x2 x3 x4 x5 (y0 + y1) x7 x8 x9 x10 x11 x12 (0 : Int32) _ _ _ (by omega) (by omega) hz_x3 hz_x10 hz_x11 hP hD hS (lv_sub hl [3, 4, 5, 6, 7, 8, 2, 9, 1, 10, 11, 12, 13, 0] rfl) hw
    · have hw := hw.2 cd38
      refine lv_aload_n hx hb dL_kept_286 rfl (lv_at hl 1 rfl) ?_
      refine lv_iload hx hb dL_kept_287 (lv_at hl 9 rfl) ?_
      refine kI_l (kr_SW [] ⟨hx, hb, hml, hown, hts⟩ (cb_L_roomOf l hst G a o37 x9 hw H.size) (vx_cwSW 2 hts gL_kept_L_roomOf rfl rfl rfl (by decide +kernel) ⟨Nat.le_of_ble_eq_true rfl, Nat.le_of_ble_eq_true rfl⟩) hK hG hP hD hS hA (List.range 51) nd51 (rg51 G a _) rfl hl.1 rfl (Nat.le_of_ble_eq_true rfl) dL_kept_289 ⟨by show _ ≤ 1320; omega, by show _ ≤ 7920; omega⟩) hP hD hS hA (fun r87 o88 H locs hw hP hD hS => ?_)
      refine lv_l2i hx hb dL_kept_292 rfl ?_
      refine lv_iconst (v := 1) hx hb dL_kept_293 (by decide) ?_
      refine lv_iadd hx hb dL_kept_294 ?_
      refine lv_goto (tgt := 300) hx hb dL_kept_295 (by decide) ?_
      refine lv_istore (lv' := [(8, .int (r87.toInt32 + (1 : Int32))), (6, .int (y0 + y1)), (0, .ref (a 0)), (1, .int x1), (2, .int x2), (3, .int x3), (4, .int x4), (5, .int x5), (7, .int x7), (9, .int x9), (10, .int x10), (11, .int x11), (12, .int x12)]) hx hb dL_kept_300 hl (by decide) rfl (fun ls hl => ?_)
      refine lv_iconst (v := 0) hx hb dL_kept_302 (by decide) ?_
      refine lv_istore (lv' := [(13, .int (0 : Int32)), (8, .int (r87.toInt32 + (1 : Int32))), (6, .int (y0 + y1)), (0, .ref (a 0)), (1, .int x1), (2, .int x2), (3, .int x3), (4, .int x4), (5, .int x5), (7, .int x7), (9, .int x9), (10, .int x10), (11, .int x11), (12, .int x12)]) hx hb dL_kept_303 hl (by decide) rfl (fun ls hl => ?_)
      exact J305 k168 nn168 hk168 15 _ _ o88 x1 x2 x3 x4 x5 (y0 + y1) x7 (r87.toInt32 + (1 : Int32)) x9 x10 x11 x12 (0 : Int32) _ _ _ (by omega) (by omega) hz_x3 hz_x10 hz_x11 hP hD hS (lv_sub hl [3, 4, 5, 6, 7, 8, 2, 9, 1, 10, 11, 12, 13, 0] rfl) hw
  have J255 : ∀ (k168 : OB → Int32 → Int32 → Int32 → Int32 → Int32 → Int32 → Int32 → Int32 → Int32 → Prop) (nn168 : Nat) (hk168 : ∀ (k z : Nat) (o : OB) (x1 : Int32) (x2 : Int32) (x3 : Int32) (x4 : Int32) (x5 : Int32) (x6 : Int32) (x7 : Int32) (x8 : Int32) (x9 : Int32) (H : Heap) (locs : List Loc) (ls : Array Slot), k + nn168 ≤ 1320 → z + 6 * nn168 ≤ 7920 → (x3 = 0 ∨ x3 = 1) → va_P (gD G) vwCl (wOB G a o) H → va_D A (wOB G a o) → va_S A s.heap H locs → lv_has ls 15 [(0, .ref (a 0)), (1, .int x1), (2, .int x2), (3, .int x3), (4, .int x4), (5, .int x5), (6, .int x6), (7, .int x7), (8, .int x8), (9, .int x9)] → k168 o x1 x2 x3 x4 x5 x6 x7 x8 x9 → W p l e ({ frames := 21, cells := 1320, slots := 7920, locals := 544 } : Room) s m ([.ref (a 0)] : List Value).toArray below meth c H locs k z (MQ below (va_Qi (fun (r : Int32) (u : OB) => (r = 0 ∨ r = 1) ∧ Q r u) (mBk G A (fun (u : OB) => (wOB G a u))) A) ([.ref (a 0)] : List Value).toArray s 1320 7920 A) (F0 m 168 ls [])) (k z : Nat) (o : OB) (x1 : Int32) (x2 : Int32) (x3 : Int32) (x4 : Int32) (x5 : Int32) (x6 : Int32) (x7 : Int32) (x8 : Int32) (x9 : Int32) (x10 : Int32) (x11 : Int32) (x12 : Int32) (y0 : Int32) (y1 : Int32) (H : Heap) (locs : List Loc) (ls : Array Slot), k + (85 + nn168) ≤ 1320 → z + 6 * (85 + nn168) ≤ 7920 → (x3 = 0 ∨ x3 = 1) → (x10 = 0 ∨ x10 = 1) → (x11 = 0 ∨ x11 = 1) → (x12 = 0 ∨ x12 = 1) → va_P (gD G) vwCl (wOB G a o) H → va_D A (wOB G a o) → va_S A s.heap H locs → lv_has ls 15 [(0, .ref (a 0)), (1, .int x1), (2, .int x2), (3, .int x3), (4, .int x4), (5, .int x5), (6, .int x6), (7, .int x7), (8, .int x8), (9, .int x9), (10, .int x10), (11, .int x11), (12, .int x12)] → wj_b_L_kept_255 Q k168 o x1 x2 x3 x4 x5 x6 x7 x8 x9 x10 x11 x12 y0 y1 → W p l e ({ frames := 21, cells := 1320, slots := 7920, locals := 544 } : Room) s m ([.ref (a 0)] : List Value).toArray below meth c H locs k z (MQ below (va_Qi (fun (r : Int32) (u : OB) => (r = 0 ∨ r = 1) ∧ Q r u) (mBk G A (fun (u : OB) => (wOB G a u))) A) ([.ref (a 0)] : List Value).toArray s 1320 7920 A) (F0 m 255 ls [.int y1, .int y0]) := by
    intro k168 nn168 hk168 k z o x1 x2 x3 x4 x5 x6 x7 x8 x9 x10 x11 x12 y0 y1 H locs ls hbk hbz hz_x3 hz_x10 hz_x11 hz_x12 hP hD hS hl hw
    unfold wj_b_L_kept_255 at hw
    refine lv_iadd hx hb dL_kept_255 ?_
    refine lv_istore (lv' := [(5, .int (y0 + y1)), (0, .ref (a 0)), (1, .int x1), (2, .int x2), (3, .int x3), (4, .int x4), (6, .int x6), (7, .int x7), (8, .int x8), (9, .int x9), (10, .int x10), (11, .int x11), (12, .int x12)]) hx hb dL_kept_256 hl (by decide) rfl (fun ls hl => ?_)
    refine lv_iload hx hb dL_kept_258 (lv_at hl 6 rfl) ?_
    refine lv_iload hx hb dL_kept_260 (lv_at hl 11 rfl) ?_
    refine lv_if_eq (tgt := 269) hx hb dL_kept_262 (by decide) (fun cd35 => ?_) (fun cd35 => ?_)
    · have hw := hw.1 cd35
      refine lv_iconst (v := 0) hx hb dL_kept_269 (by decide) ?_
      exact J270 k168 nn168 hk168 _ _ o x1 x2 x3 x4 (y0 + y1) x6 x7 x8 x9 x10 x11 x12 x6 (0 : Int32) _ _ _ (by omega) (by omega) hz_x3 hz_x10 hz_x11 hz_x12 (Or.inl rfl) hP hD hS (lv_sub hl [1, 2, 3, 4, 5, 0, 6, 7, 8, 9, 10, 11, 12] rfl) hw
    · have hw := hw.2 cd35
      refine lv_iconst (v := 1) hx hb dL_kept_265 (by decide) ?_
      refine lv_goto (tgt := 270) hx hb dL_kept_266 (by decide) ?_
      exact J270 k168 nn168 hk168 _ _ o x1 x2 x3 x4 (y0 + y1) x6 x7 x8 x9 x10 x11 x12 x6 (1 : Int32) _ _ _ (by omega) (by omega) hz_x3 hz_x10 hz_x11 hz_x12 (Or.inr rfl) hP hD hS (lv_sub hl [1, 2, 3, 4, 5, 0, 6, 7, 8, 9, 10, 11, 12] rfl) hw
  have J234 : ∀ (k168 : OB → Int32 → Int32 → Int32 → Int32 → Int32 → Int32 → Int32 → Int32 → Int32 → Prop) (nn168 : Nat) (hk168 : ∀ (k z : Nat) (o : OB) (x1 : Int32) (x2 : Int32) (x3 : Int32) (x4 : Int32) (x5 : Int32) (x6 : Int32) (x7 : Int32) (x8 : Int32) (x9 : Int32) (H : Heap) (locs : List Loc) (ls : Array Slot), k + nn168 ≤ 1320 → z + 6 * nn168 ≤ 7920 → (x3 = 0 ∨ x3 = 1) → va_P (gD G) vwCl (wOB G a o) H → va_D A (wOB G a o) → va_S A s.heap H locs → lv_has ls 15 [(0, .ref (a 0)), (1, .int x1), (2, .int x2), (3, .int x3), (4, .int x4), (5, .int x5), (6, .int x6), (7, .int x7), (8, .int x8), (9, .int x9)] → k168 o x1 x2 x3 x4 x5 x6 x7 x8 x9 → W p l e ({ frames := 21, cells := 1320, slots := 7920, locals := 544 } : Room) s m ([.ref (a 0)] : List Value).toArray below meth c H locs k z (MQ below (va_Qi (fun (r : Int32) (u : OB) => (r = 0 ∨ r = 1) ∧ Q r u) (mBk G A (fun (u : OB) => (wOB G a u))) A) ([.ref (a 0)] : List Value).toArray s 1320 7920 A) (F0 m 168 ls [])) (k z : Nat) (o : OB) (x1 : Int32) (x2 : Int32) (x3 : Int32) (x4 : Int32) (x5 : Int32) (x6 : Int32) (x7 : Int32) (x8 : Int32) (x9 : Int32) (x10 : Int32) (x11 : Int32) (x12 : Int32) (y0 : Int32) (y1 : Int32) (H : Heap) (locs : List Loc) (ls : Array Slot), k + (86 + nn168) ≤ 1320 → z + 6 * (86 + nn168) ≤ 7920 → (x3 = 0 ∨ x3 = 1) → (x10 = 0 ∨ x10 = 1) → (x11 = 0 ∨ x11 = 1) → (x12 = 0 ∨ x12 = 1) → va_P (gD G) vwCl (wOB G a o) H → va_D A (wOB G a o) → va_S A s.heap H locs → lv_has ls 15 [(0, .ref (a 0)), (1, .int x1), (2, .int x2), (3, .int x3), (4, .int x4), (5, .int x5), (6, .int x6), (7, .int x7), (8, .int x8), (9, .int x9), (10, .int x10), (11, .int x11), (12, .int x12)] → wj_b_L_kept_234 Q k168 o x1 x2 x3 x4 x5 x6 x7 x8 x9 x10 x11 x12 y0 y1 → W p l e ({ frames := 21, cells := 1320, slots := 7920, locals := 544 } : Room) s m ([.ref (a 0)] : List Value).toArray below meth c H locs k z (MQ below (va_Qi (fun (r : Int32) (u : OB) => (r = 0 ∨ r = 1) ∧ Q r u) (mBk G A (fun (u : OB) => (wOB G a u))) A) ([.ref (a 0)] : List Value).toArray s 1320 7920 A) (F0 m 234 ls [.int y1, .int y0]) := by
    intro k168 nn168 hk168 k z o x1 x2 x3 x4 x5 x6 x7 x8 x9 x10 x11 x12 y0 y1 H locs ls hbk hbz hz_x3 hz_x10 hz_x11 hz_x12 hP hD hS hl hw
    unfold wj_b_L_kept_234 at hw
    refine lv_iadd hx hb dL_kept_234 ?_
    refine lv_istore (lv' := [(4, .int (y0 + y1)), (0, .ref (a 0)), (1, .int x1), (2, .int x2), (3, .int x3), (5, .int x5), (6, .int x6), (7, .int x7), (8, .int x8), (9, .int x9), (10, .int x10), (11, .int x11), (12, .int x12)]) hx hb dL_kept_235 hl (by decide) rfl (fun ls hl => ?_)
    refine lv_iload hx hb dL_kept_237 (lv_at hl 5 rfl) ?_
    refine lv_iload hx hb dL_kept_239 (lv_at hl 11 rfl) ?_
    refine lv_if_eq (tgt := 254) hx hb dL_kept_241 (by decide) (fun cd34 => ?_) (fun cd34 => ?_)
    · have hw := hw.1 cd34
      refine lv_iconst (v := 0) hx hb dL_kept_254 (by decide) ?_
      exact J255 k168 nn168 hk168 _ _ o x1 x2 x3 (y0 + y1) x5 x6 x7 x8 x9 x10 x11 x12 x5 (0 : Int32) _ _ _ (by omega) (by omega) hz_x3 hz_x10 hz_x11 hz_x12 hP hD hS (lv_sub hl [1, 2, 3, 4, 0, 5, 6, 7, 8, 9, 10, 11, 12] rfl) hw
    · have hw := hw.2 cd34
      refine lv_aload_n hx hb dL_kept_244 rfl (lv_at hl 1 rfl) ?_
      refine lv_iload hx hb dL_kept_245 (lv_at hl 9 rfl) ?_
      refine kI_l (kr_SW [.int x5] ⟨hx, hb, hml, hown, hts⟩ (cb_L_fameOf l hst G a o x9 hw H.size) (vx_cwSW 2 hts gL_kept_L_fameOf rfl rfl rfl (by decide +kernel) ⟨Nat.le_of_ble_eq_true rfl, Nat.le_of_ble_eq_true rfl⟩) hK hG hP hD hS hA (List.range 51) nd51 (rg51 G a _) rfl hl.1 rfl (Nat.le_of_ble_eq_true rfl) dL_kept_247 ⟨by show _ ≤ 1320; omega, by show _ ≤ 7920; omega⟩) hP hD hS hA (fun r89 o90 H locs hw hP hD hS => ?_)
      refine lv_l2i hx hb dL_kept_250 rfl ?_
      refine lv_goto (tgt := 255) hx hb dL_kept_251 (by decide) ?_
      exact J255 k168 nn168 hk168 _ _ o90 x1 x2 x3 (y0 + y1) x5 x6 x7 x8 x9 x10 x11 x12 x5 r89.toInt32 _ _ _ (by omega) (by omega) hz_x3 hz_x10 hz_x11 hz_x12 hP hD hS (lv_sub hl [1, 2, 3, 4, 0, 5, 6, 7, 8, 9, 10, 11, 12] rfl) hw
  have J211 : ∀ (k168 : OB → Int32 → Int32 → Int32 → Int32 → Int32 → Int32 → Int32 → Int32 → Int32 → Prop) (nn168 : Nat) (hk168 : ∀ (k z : Nat) (o : OB) (x1 : Int32) (x2 : Int32) (x3 : Int32) (x4 : Int32) (x5 : Int32) (x6 : Int32) (x7 : Int32) (x8 : Int32) (x9 : Int32) (H : Heap) (locs : List Loc) (ls : Array Slot), k + nn168 ≤ 1320 → z + 6 * nn168 ≤ 7920 → (x3 = 0 ∨ x3 = 1) → va_P (gD G) vwCl (wOB G a o) H → va_D A (wOB G a o) → va_S A s.heap H locs → lv_has ls 15 [(0, .ref (a 0)), (1, .int x1), (2, .int x2), (3, .int x3), (4, .int x4), (5, .int x5), (6, .int x6), (7, .int x7), (8, .int x8), (9, .int x9)] → k168 o x1 x2 x3 x4 x5 x6 x7 x8 x9 → W p l e ({ frames := 21, cells := 1320, slots := 7920, locals := 544 } : Room) s m ([.ref (a 0)] : List Value).toArray below meth c H locs k z (MQ below (va_Qi (fun (r : Int32) (u : OB) => (r = 0 ∨ r = 1) ∧ Q r u) (mBk G A (fun (u : OB) => (wOB G a u))) A) ([.ref (a 0)] : List Value).toArray s 1320 7920 A) (F0 m 168 ls [])) (k z : Nat) (o : OB) (x1 : Int32) (x2 : Int32) (x3 : Int32) (x4 : Int32) (x5 : Int32) (x6 : Int32) (x7 : Int32) (x8 : Int32) (x9 : Int32) (x10 : Int32) (y0 : Int32) (H : Heap) (locs : List Loc) (ls : Array Slot), k + (87 + nn168) ≤ 1320 → z + 6 * (87 + nn168) ≤ 7920 → (x3 = 0 ∨ x3 = 1) → (x10 = 0 ∨ x10 = 1) → (y0 = 0 ∨ y0 = 1) → va_P (gD G) vwCl (wOB G a o) H → va_D A (wOB G a o) → va_S A s.heap H locs → lv_has ls 15 [(0, .ref (a 0)), (1, .int x1), (2, .int x2), (3, .int x3), (4, .int x4), (5, .int x5), (6, .int x6), (7, .int x7), (8, .int x8), (9, .int x9), (10, .int x10)] → wj_b_L_kept_211 Q k168 o x1 x2 x3 x4 x5 x6 x7 x8 x9 x10 y0 → W p l e ({ frames := 21, cells := 1320, slots := 7920, locals := 544 } : Room) s m ([.ref (a 0)] : List Value).toArray below meth c H locs k z (MQ below (va_Qi (fun (r : Int32) (u : OB) => (r = 0 ∨ r = 1) ∧ Q r u) (mBk G A (fun (u : OB) => (wOB G a u))) A) ([.ref (a 0)] : List Value).toArray s 1320 7920 A) (F0 m 211 ls [.int y0]) := by
    intro k168 nn168 hk168 k z o x1 x2 x3 x4 x5 x6 x7 x8 x9 x10 y0 H locs ls hbk hbz hz_x3 hz_x10 hz_y0 hP hD hS hl hw
    unfold wj_b_L_kept_211 at hw
    refine lv_istore (lv' := [(11, .int y0), (0, .ref (a 0)), (1, .int x1), (2, .int x2), (3, .int x3), (4, .int x4), (5, .int x5), (6, .int x6), (7, .int x7), (8, .int x8), (9, .int x9), (10, .int x10)]) hx hb dL_kept_211 hl (by decide) rfl (fun ls hl => ?_)
    refine lv_iconst (v := 0) hx hb dL_kept_213 (by decide) ?_
    refine lv_istore (lv' := [(12, .int (0 : Int32)), (11, .int y0), (0, .ref (a 0)), (1, .int x1), (2, .int x2), (3, .int x3), (4, .int x4), (5, .int x5), (6, .int x6), (7, .int x7), (8, .int x8), (9, .int x9), (10, .int x10)]) hx hb dL_kept_214 hl (by decide) rfl (fun ls hl => ?_)
    refine lv_iload hx hb dL_kept_216 (lv_at hl 6 rfl) ?_
    refine lv_iload hx hb dL_kept_218 (lv_at hl 12 rfl) ?_
    refine lv_if_eq (tgt := 233) hx hb dL_kept_220 (by decide) (fun cd33 => ?_) (fun cd33 => ?_)
    · have hw := hw.1 cd33
      refine lv_iconst (v := 0) hx hb dL_kept_233 (by decide) ?_
      exact J234 k168 nn168 hk168 _ _ o x1 x2 x3 x4 x5 x6 x7 x8 x9 x10 y0 (0 : Int32) x4 (0 : Int32) _ _ _ (by omega) (by omega) hz_x3 hz_x10 hz_y0 (Or.inl rfl) hP hD hS (lv_sub hl [2, 3, 4, 5, 6, 7, 8, 9, 10, 11, 12, 1, 0] rfl) hw
    · have hw := hw.2 cd33
      refine lv_aload_n hx hb dL_kept_223 rfl (lv_at hl 2 rfl) ?_
      refine lv_iload hx hb dL_kept_224 (lv_at hl 11 rfl) ?_
      refine kI_l (kr_SW [.int x4] ⟨hx, hb, hml, hown, hts⟩ (cb_L_fameOf l hst G a o x9 hw H.size) (vx_cwSW 2 hts gL_kept_L_fameOf rfl rfl rfl (by decide +kernel) ⟨Nat.le_of_ble_eq_true rfl, Nat.le_of_ble_eq_true rfl⟩) hK hG hP hD hS hA (List.range 51) nd51 (rg51 G a _) rfl hl.1 rfl (Nat.le_of_ble_eq_true rfl) dL_kept_226 ⟨by show _ ≤ 1320; omega, by show _ ≤ 7920; omega⟩) hP hD hS hA (fun r91 o92 H locs hw hP hD hS => ?_)
      refine lv_l2i hx hb dL_kept_229 rfl ?_
      refine lv_goto (tgt := 234) hx hb dL_kept_230 (by decide) ?_
      exact J234 k168 nn168 hk168 _ _ o92 x1 x2 x3 x4 x5 x6 x7 x8 x9 x10 y0 (0 : Int32) x4 r91.toInt32 _ _ _ (by omega) (by omega) hz_x3 hz_x10 hz_y0 (Or.inl rfl) hP hD hS (lv_sub hl [2, 3, 4, 5, 6, 7, 8, 9, 10, 11, 12, 1, 0] rfl) hw
  have J193 : ∀ (k168 : OB → Int32 → Int32 → Int32 → Int32 → Int32 → Int32 → Int32 → Int32 → Int32 → Prop) (nn168 : Nat) (hk168 : ∀ (k z : Nat) (o : OB) (x1 : Int32) (x2 : Int32) (x3 : Int32) (x4 : Int32) (x5 : Int32) (x6 : Int32) (x7 : Int32) (x8 : Int32) (x9 : Int32) (H : Heap) (locs : List Loc) (ls : Array Slot), k + nn168 ≤ 1320 → z + 6 * nn168 ≤ 7920 → (x3 = 0 ∨ x3 = 1) → va_P (gD G) vwCl (wOB G a o) H → va_D A (wOB G a o) → va_S A s.heap H locs → lv_has ls 15 [(0, .ref (a 0)), (1, .int x1), (2, .int x2), (3, .int x3), (4, .int x4), (5, .int x5), (6, .int x6), (7, .int x7), (8, .int x8), (9, .int x9)] → k168 o x1 x2 x3 x4 x5 x6 x7 x8 x9 → W p l e ({ frames := 21, cells := 1320, slots := 7920, locals := 544 } : Room) s m ([.ref (a 0)] : List Value).toArray below meth c H locs k z (MQ below (va_Qi (fun (r : Int32) (u : OB) => (r = 0 ∨ r = 1) ∧ Q r u) (mBk G A (fun (u : OB) => (wOB G a u))) A) ([.ref (a 0)] : List Value).toArray s 1320 7920 A) (F0 m 168 ls [])) (k z : Nat) (o : OB) (x1 : Int32) (x2 : Int32) (x3 : Int32) (x4 : Int32) (x5 : Int32) (x6 : Int32) (x7 : Int32) (x8 : Int32) (x9 : Int32) (y0 : Int32) (H : Heap) (locs : List Loc) (ls : Array Slot), k + (88 + nn168) ≤ 1320 → z + 6 * (88 + nn168) ≤ 7920 → (x3 = 0 ∨ x3 = 1) → (y0 = 0 ∨ y0 = 1) → va_P (gD G) vwCl (wOB G a o) H → va_D A (wOB G a o) → va_S A s.heap H locs → lv_has ls 15 [(0, .ref (a 0)), (1, .int x1), (2, .int x2), (3, .int x3), (4, .int x4), (5, .int x5), (6, .int x6), (7, .int x7), (8, .int x8), (9, .int x9)] → wj_b_L_kept_193 Q k168 o x1 x2 x3 x4 x5 x6 x7 x8 x9 y0 → W p l e ({ frames := 21, cells := 1320, slots := 7920, locals := 544 } : Room) s m ([.ref (a 0)] : List Value).toArray below meth c H locs k z (MQ below (va_Qi (fun (r : Int32) (u : OB) => (r = 0 ∨ r = 1) ∧ Q r u) (mBk G A (fun (u : OB) => (wOB G a u))) A) ([.ref (a 0)] : List Value).toArray s 1320 7920 A) (F0 m 193 ls [.int y0]) := by
    intro k168 nn168 hk168 k z o x1 x2 x3 x4 x5 x6 x7 x8 x9 y0 H locs ls hbk hbz hz_x3 hz_y0 hP hD hS hl hw
    unfold wj_b_L_kept_193 at hw
    refine lv_istore (lv' := [(10, .int y0), (0, .ref (a 0)), (1, .int x1), (2, .int x2), (3, .int x3), (4, .int x4), (5, .int x5), (6, .int x6), (7, .int x7), (8, .int x8), (9, .int x9)]) hx hb dL_kept_193 hl (by decide) rfl (fun ls hl => ?_)
    refine lv_aload_n hx hb dL_kept_195 rfl (lv_at hl 1 rfl) ?_
    refine lv_iload hx hb dL_kept_196 (lv_at hl 10 rfl) ?_
    refine kI_l (kr_SW [] ⟨hx, hb, hml, hown, hts⟩ (cb_L_isBooked l hst G a o x9 hw H.size) (vx_cwSW 2 hts gL_kept_L_isBooked rfl rfl rfl (by decide +kernel) ⟨Nat.le_of_ble_eq_true rfl, Nat.le_of_ble_eq_true rfl⟩) hK hG hP hD hS hA (List.range 51) nd51 (rg51 G a _) rfl hl.1 rfl (Nat.le_of_ble_eq_true rfl) dL_kept_198 ⟨by show _ ≤ 1320; omega, by show _ ≤ 7920; omega⟩) hP hD hS hA (fun r30 o31 H locs hw hP hD hS => ?_)
    refine lv_lconst (v := 1) hx hb dL_kept_201 (by decide) ?_
    refine W.lcmp hx hb dL_kept_202 ?_
    refine lv_if_ne (tgt := 210) hx hb dL_kept_203 (by decide) (fun cd32 => ?_) (fun cd32 => ?_)
    · have hw := hw.1 cd32
      refine lv_iconst (v := 0) hx hb dL_kept_210 (by decide) ?_
      exact J211 k168 nn168 hk168 _ _ o31 x1 x2 x3 x4 x5 x6 x7 x8 x9 y0 (0 : Int32) _ _ _ (by omega) (by omega) hz_x3 hz_y0 (Or.inl rfl) hP hD hS (lv_sub hl [1, 2, 3, 4, 5, 6, 7, 8, 9, 10, 0] rfl) hw
    · have hw := hw.2 cd32
      refine lv_iconst (v := 1) hx hb dL_kept_206 (by decide) ?_
      refine lv_goto (tgt := 211) hx hb dL_kept_207 (by decide) ?_
      exact J211 k168 nn168 hk168 _ _ o31 x1 x2 x3 x4 x5 x6 x7 x8 x9 y0 (1 : Int32) _ _ _ (by omega) (by omega) hz_x3 hz_y0 (Or.inr rfl) hP hD hS (lv_sub hl [1, 2, 3, 4, 5, 6, 7, 8, 9, 10, 0] rfl) hw
  have J168 : ∀ (n : Nat) (k z : Nat) (o : OB) (x1 : Int32) (x2 : Int32) (x3 : Int32) (x4 : Int32) (x5 : Int32) (x6 : Int32) (x7 : Int32) (x8 : Int32) (x9 : Int32) (H : Heap) (locs : List Loc) (ls : Array Slot), k + (n * 88 + 0) ≤ 1320 → z + 6 * (n * 88 + 0) ≤ 7920 → (x3 = 0 ∨ x3 = 1) → va_P (gD G) vwCl (wOB G a o) H → va_D A (wOB G a o) → va_S A s.heap H locs → lv_has ls 15 [(0, .ref (a 0)), (1, .int x1), (2, .int x2), (3, .int x3), (4, .int x4), (5, .int x5), (6, .int x6), (7, .int x7), (8, .int x8), (9, .int x9)] → wl_b_L_kept_168 Q n o x1 x2 x3 x4 x5 x6 x7 x8 x9 → W p l e ({ frames := 21, cells := 1320, slots := 7920, locals := 544 } : Room) s m ([.ref (a 0)] : List Value).toArray below meth c H locs k z (MQ below (va_Qi (fun (r : Int32) (u : OB) => (r = 0 ∨ r = 1) ∧ Q r u) (mBk G A (fun (u : OB) => (wOB G a u))) A) ([.ref (a 0)] : List Value).toArray s 1320 7920 A) (F0 m 168 ls []) := by
    intro n
    induction n with
    | zero => intro k z o x1 x2 x3 x4 x5 x6 x7 x8 x9 H locs ls hbk hbz hz_x3 hP hD hS hl hw; exact False.elim hw
    | succ n ih =>
      intro k z o x1 x2 x3 x4 x5 x6 x7 x8 x9 H locs ls hbk hbz hz_x3 hP hD hS hl hw
      rw [wl_b_L_kept_168] at hw
      refine lv_iload hx hb dL_kept_168 (lv_at hl 9 rfl) ?_
      refine lv_iload_n hx hb dL_kept_170 rfl (lv_at hl 1 rfl) ?_
      refine lv_icmp_ge (tgt := 532) hx hb dL_kept_171 (by decide) (fun cd10 => ?_) (fun cd10 => ?_)
      · have hw := hw.1 cd10
        exact J532 _ _ o x1 x2 x3 x4 x5 x6 x7 x8 x9 _ _ _ (by omega) (by omega) hz_x3 hP hD hS hl hw
      · have hw := hw.2 cd10
        refine lv_iload_n hx hb dL_kept_174 rfl (lv_at hl 3 rfl) ?_
        refine lv_if_eq (tgt := 532) hx hb dL_kept_175 (by decide) (fun cd28 => ?_) (fun cd28 => ?_)
        · have hw := hw.1 cd28
          exact J532 _ _ o x1 x2 x3 x4 x5 x6 x7 x8 x9 _ _ _ (by omega) (by omega) hz_x3 hP hD hS hl hw
        · have hw := hw.2 cd28
          refine lv_iload_n hx hb dL_kept_178 rfl (lv_at hl 2 rfl) ?_
          refine lv_iload hx hb dL_kept_179 (lv_at hl 9 rfl) ?_
          refine lv_ishr hx hb dL_kept_181 ?_
          refine lv_iconst (v := 1) hx hb dL_kept_182 (by decide) ?_
          refine lv_iand hx hb dL_kept_183 ?_
          refine lv_iconst (v := 1) hx hb dL_kept_184 (by decide) ?_
          refine lv_icmp_ne (tgt := 192) hx hb dL_kept_185 (by decide) (fun cd29 => ?_) (fun cd29 => ?_)
          · have hw := hw.1 cd29
            refine lv_iconst (v := 0) hx hb dL_kept_192 (by decide) ?_
            exact J193 (fun (z0 : OB) (z1 : Int32) (z2 : Int32) (z3 : Int32) (z4 : Int32) (z5 : Int32) (z6 : Int32) (z7 : Int32) (z8 : Int32) (z9 : Int32) => wl_b_L_kept_168 Q n z0 z1 z2 z3 z4 z5 z6 z7 z8 z9) (n * 88 + 0) ih _ _ o x1 x2 x3 x4 x5 x6 x7 x8 x9 (0 : Int32) _ _ _ (by omega) (by omega) hz_x3 (Or.inl rfl) hP hD hS hl hw
          · have hw := hw.2 cd29
            refine lv_iconst (v := 1) hx hb dL_kept_188 (by decide) ?_
            refine lv_goto (tgt := 193) hx hb dL_kept_189 (by decide) ?_
            exact J193 (fun (z0 : OB) (z1 : Int32) (z2 : Int32) (z3 : Int32) (z4 : Int32) (z5 : Int32) (z6 : Int32) (z7 : Int32) (z8 : Int32) (z9 : Int32) => wl_b_L_kept_168 Q n z0 z1 z2 z3 z4 z5 z6 z7 z8 z9) (n * 88 + 0) ih _ _ o x1 x2 x3 x4 x5 x6 x7 x8 x9 (1 : Int32) _ _ _ (by omega) (by omega) hz_x3 (Or.inr rfl) hP hD hS hl hw
  have J149 : ∀ (k z : Nat) (o : OB) (x1 : Int32) (x2 : Int32) (y0 : Int32) (H : Heap) (locs : List Loc) (ls : Array Slot), k + (1320) ≤ 1320 → z + 6 * (1320) ≤ 7920 → (y0 = 0 ∨ y0 = 1) → va_P (gD G) vwCl (wOB G a o) H → va_D A (wOB G a o) → va_S A s.heap H locs → lv_has ls 15 [(0, .ref (a 0)), (1, .int x1), (2, .int x2)] → wj_b_L_kept_149 Q o x1 x2 y0 → W p l e ({ frames := 21, cells := 1320, slots := 7920, locals := 544 } : Room) s m ([.ref (a 0)] : List Value).toArray below meth c H locs k z (MQ below (va_Qi (fun (r : Int32) (u : OB) => (r = 0 ∨ r = 1) ∧ Q r u) (mBk G A (fun (u : OB) => (wOB G a u))) A) ([.ref (a 0)] : List Value).toArray s 1320 7920 A) (F0 m 149 ls [.int y0]) := by
    intro k z o x1 x2 y0 H locs ls hbk hbz hz_y0 hP hD hS hl hw
    unfold wj_b_L_kept_149 at hw
    refine lv_istore_n (lv' := [(3, .int y0), (0, .ref (a 0)), (1, .int x1), (2, .int x2)]) hx hb dL_kept_149 rfl hl (by decide) rfl (fun ls hl => ?_)
    refine lv_iconst (v := 0) hx hb dL_kept_150 (by decide) ?_
    refine lv_istore (lv' := [(4, .int (0 : Int32)), (3, .int y0), (0, .ref (a 0)), (1, .int x1), (2, .int x2)]) hx hb dL_kept_151 hl (by decide) rfl (fun ls hl => ?_)
    refine lv_iconst (v := 0) hx hb dL_kept_153 (by decide) ?_
    refine lv_istore (lv' := [(5, .int (0 : Int32)), (4, .int (0 : Int32)), (3, .int y0), (0, .ref (a 0)), (1, .int x1), (2, .int x2)]) hx hb dL_kept_154 hl (by decide) rfl (fun ls hl => ?_)
    refine lv_iconst (v := 0) hx hb dL_kept_156 (by decide) ?_
    refine lv_istore (lv' := [(6, .int (0 : Int32)), (5, .int (0 : Int32)), (4, .int (0 : Int32)), (3, .int y0), (0, .ref (a 0)), (1, .int x1), (2, .int x2)]) hx hb dL_kept_157 hl (by decide) rfl (fun ls hl => ?_)
    refine lv_iconst (v := 0) hx hb dL_kept_159 (by decide) ?_
    refine lv_istore (lv' := [(7, .int (0 : Int32)), (6, .int (0 : Int32)), (5, .int (0 : Int32)), (4, .int (0 : Int32)), (3, .int y0), (0, .ref (a 0)), (1, .int x1), (2, .int x2)]) hx hb dL_kept_160 hl (by decide) rfl (fun ls hl => ?_)
    refine lv_iconst (v := 0) hx hb dL_kept_162 (by decide) ?_
    refine lv_istore (lv' := [(8, .int (0 : Int32)), (7, .int (0 : Int32)), (6, .int (0 : Int32)), (5, .int (0 : Int32)), (4, .int (0 : Int32)), (3, .int y0), (0, .ref (a 0)), (1, .int x1), (2, .int x2)]) hx hb dL_kept_163 hl (by decide) rfl (fun ls hl => ?_)
    refine lv_iconst (v := 0) hx hb dL_kept_165 (by decide) ?_
    refine lv_istore (lv' := [(9, .int (0 : Int32)), (8, .int (0 : Int32)), (7, .int (0 : Int32)), (6, .int (0 : Int32)), (5, .int (0 : Int32)), (4, .int (0 : Int32)), (3, .int y0), (0, .ref (a 0)), (1, .int x1), (2, .int x2)]) hx hb dL_kept_166 hl (by decide) rfl (fun ls hl => ?_)
    exact J168 15 _ _ o x1 x2 y0 (0 : Int32) (0 : Int32) (0 : Int32) (0 : Int32) (0 : Int32) (0 : Int32) _ _ _ (by omega) (by omega) hz_y0 hP hD hS (lv_sub hl [7, 8, 9, 6, 5, 4, 3, 2, 1, 0] rfl) hw
  have J148 : ∀ (k z : Nat) (o : OB) (x1 : Int32) (x2 : Int32) (H : Heap) (locs : List Loc) (ls : Array Slot), k + (1320) ≤ 1320 → z + 6 * (1320) ≤ 7920 → va_P (gD G) vwCl (wOB G a o) H → va_D A (wOB G a o) → va_S A s.heap H locs → lv_has ls 15 [(0, .ref (a 0)), (1, .int x1), (2, .int x2)] → wj_b_L_kept_148 Q o x1 x2 → W p l e ({ frames := 21, cells := 1320, slots := 7920, locals := 544 } : Room) s m ([.ref (a 0)] : List Value).toArray below meth c H locs k z (MQ below (va_Qi (fun (r : Int32) (u : OB) => (r = 0 ∨ r = 1) ∧ Q r u) (mBk G A (fun (u : OB) => (wOB G a u))) A) ([.ref (a 0)] : List Value).toArray s 1320 7920 A) (F0 m 148 ls []) := by
    intro k z o x1 x2 H locs ls hbk hbz hP hD hS hl hw
    unfold wj_b_L_kept_148 at hw
    refine lv_iconst (v := 0) hx hb dL_kept_148 (by decide) ?_
    exact J149 _ _ o x1 x2 (0 : Int32) _ _ _ (by omega) (by omega) (Or.inl rfl) hP hD hS hl hw
  have J141 : ∀ (k z : Nat) (o : OB) (x1 : Int32) (x2 : Int32) (y0 : Int32) (y1 : Int32) (H : Heap) (locs : List Loc) (ls : Array Slot), k + (1320) ≤ 1320 → z + 6 * (1320) ≤ 7920 → (y0 = 0 ∨ y0 = 1) → (y1 = 0 ∨ y1 = 1) → va_P (gD G) vwCl (wOB G a o) H → va_D A (wOB G a o) → va_S A s.heap H locs → lv_has ls 15 [(0, .ref (a 0)), (1, .int x1), (2, .int x2)] → wj_b_L_kept_141 Q o x1 x2 y0 y1 → W p l e ({ frames := 21, cells := 1320, slots := 7920, locals := 544 } : Room) s m ([.ref (a 0)] : List Value).toArray below meth c H locs k z (MQ below (va_Qi (fun (r : Int32) (u : OB) => (r = 0 ∨ r = 1) ∧ Q r u) (mBk G A (fun (u : OB) => (wOB G a u))) A) ([.ref (a 0)] : List Value).toArray s 1320 7920 A) (F0 m 141 ls [.int y1, .int y0]) := by
    intro k z o x1 x2 y0 y1 H locs ls hbk hbz hz_y0 hz_y1 hP hD hS hl hw
    unfold wj_b_L_kept_141 at hw
    refine lv_icmp_ne (tgt := 148) hx hb dL_kept_141 (by decide) (fun cd132 => ?_) (fun cd132 => ?_)
    · have hw := hw.1 cd132
      exact J148 _ _ o x1 x2 _ _ _ (by omega) (by omega) hP hD hS hl hw
    · have hw := hw.2 cd132
      refine lv_iconst (v := 1) hx hb dL_kept_144 (by decide) ?_
      refine lv_goto (tgt := 149) hx hb dL_kept_145 (by decide) ?_
      exact J149 _ _ o x1 x2 (1 : Int32) _ _ _ (by omega) (by omega) (Or.inr rfl) hP hD hS hl hw
  have J128 : ∀ (k z : Nat) (o : OB) (x1 : Int32) (x2 : Int32) (y0 : Int32) (H : Heap) (locs : List Loc) (ls : Array Slot), k + (1320) ≤ 1320 → z + 6 * (1320) ≤ 7920 → (y0 = 0 ∨ y0 = 1) → va_P (gD G) vwCl (wOB G a o) H → va_D A (wOB G a o) → va_S A s.heap H locs → lv_has ls 15 [(0, .ref (a 0)), (1, .int x1), (2, .int x2)] → wj_b_L_kept_128 Q o x1 x2 y0 → W p l e ({ frames := 21, cells := 1320, slots := 7920, locals := 544 } : Room) s m ([.ref (a 0)] : List Value).toArray below meth c H locs k z (MQ below (va_Qi (fun (r : Int32) (u : OB) => (r = 0 ∨ r = 1) ∧ Q r u) (mBk G A (fun (u : OB) => (wOB G a u))) A) ([.ref (a 0)] : List Value).toArray s 1320 7920 A) (F0 m 128 ls [.int y0]) := by
    intro k z o x1 x2 y0 H locs ls hbk hbz hz_y0 hP hD hS hl hw
    unfold wj_b_L_kept_128 at hw
    refine lv_aload_n hx hb dL_kept_128 rfl (lv_at hl 0 rfl) ?_
    refine kb_X5_roomsBySweep a o  hw ⟨hx, hb, hml, hown, hts⟩ (cwV 0 hts gL_kept_X5_roomsBySweep rfl rfl rfl (by decide +kernel) ⟨Nat.le_of_ble_eq_true rfl, Nat.le_of_ble_eq_true rfl⟩) hK hG hP hD hS hA hl.1 (Nat.le_of_ble_eq_true rfl) dL_kept_129 ⟨by show _ ≤ 1320; omega, by show _ ≤ 7920; omega⟩ (fun r129 o130 H locs hw hP hD hS => ?_)
    refine lv_iconst (v := 2) hx hb dL_kept_132 (by decide) ?_
    refine lv_icmp_ge (tgt := 140) hx hb dL_kept_133 (by decide) (fun cd131 => ?_) (fun cd131 => ?_)
    · have hw := hw.1 cd131
      refine lv_iconst (v := 0) hx hb dL_kept_140 (by decide) ?_
      exact J141 _ _ o130 x1 x2 y0 (0 : Int32) _ _ _ (by omega) (by omega) hz_y0 (Or.inl rfl) hP hD hS hl hw
    · have hw := hw.2 cd131
      refine lv_iconst (v := 1) hx hb dL_kept_136 (by decide) ?_
      refine lv_goto (tgt := 141) hx hb dL_kept_137 (by decide) ?_
      exact J141 _ _ o130 x1 x2 y0 (1 : Int32) _ _ _ (by omega) (by omega) hz_y0 (Or.inr rfl) hP hD hS hl hw
  have J113 : ∀ (k z : Nat) (o : OB) (x1 : Int32) (x2 : Int32) (y0 : Int32) (y1 : Int32) (H : Heap) (locs : List Loc) (ls : Array Slot), k + (1320) ≤ 1320 → z + 6 * (1320) ≤ 7920 → (y0 = 0 ∨ y0 = 1) → (y1 = 0 ∨ y1 = 1) → va_P (gD G) vwCl (wOB G a o) H → va_D A (wOB G a o) → va_S A s.heap H locs → lv_has ls 15 [(0, .ref (a 0)), (1, .int x1), (2, .int x2)] → wj_b_L_kept_113 Q o x1 x2 y0 y1 → W p l e ({ frames := 21, cells := 1320, slots := 7920, locals := 544 } : Room) s m ([.ref (a 0)] : List Value).toArray below meth c H locs k z (MQ below (va_Qi (fun (r : Int32) (u : OB) => (r = 0 ∨ r = 1) ∧ Q r u) (mBk G A (fun (u : OB) => (wOB G a u))) A) ([.ref (a 0)] : List Value).toArray s 1320 7920 A) (F0 m 113 ls [.int y1, .int y0]) := by
    intro k z o x1 x2 y0 y1 H locs ls hbk hbz hz_y0 hz_y1 hP hD hS hl hw
    unfold wj_b_L_kept_113 at hw
    refine lv_icmp_ne (tgt := 148) hx hb dL_kept_113 (by decide) (fun cd125 => ?_) (fun cd125 => ?_)
    · have hw := hw.1 cd125
      exact J148 _ _ o x1 x2 _ _ _ (by omega) (by omega) hP hD hS hl hw
    · have hw := hw.2 cd125
      refine lv_aload_n hx hb dL_kept_116 rfl (lv_at hl 0 rfl) ?_
      refine kb_X5_conflictsByPairs a o  hw ⟨hx, hb, hml, hown, hts⟩ (cwV 0 hts gL_kept_X5_conflictsByPairs rfl rfl rfl (by decide +kernel) ⟨Nat.le_of_ble_eq_true rfl, Nat.le_of_ble_eq_true rfl⟩) hK hG hP hD hS hA hl.1 (Nat.le_of_ble_eq_true rfl) dL_kept_117 ⟨by show _ ≤ 1320; omega, by show _ ≤ 7920; omega⟩ (fun r126 o127 H locs hw hP hD hS => ?_)
      refine lv_if_ne (tgt := 127) hx hb dL_kept_120 (by decide) (fun cd128 => ?_) (fun cd128 => ?_)
      · have hw := hw.1 cd128
        refine lv_iconst (v := 0) hx hb dL_kept_127 (by decide) ?_
        exact J128 _ _ o127 x1 x2 (0 : Int32) _ _ _ (by omega) (by omega) (Or.inl rfl) hP hD hS hl hw
      · have hw := hw.2 cd128
        refine lv_iconst (v := 1) hx hb dL_kept_123 (by decide) ?_
        refine lv_goto (tgt := 128) hx hb dL_kept_124 (by decide) ?_
        exact J128 _ _ o127 x1 x2 (1 : Int32) _ _ _ (by omega) (by omega) (Or.inr rfl) hP hD hS hl hw
  have J101 : ∀ (k z : Nat) (o : OB) (x1 : Int32) (x2 : Int32) (y0 : Int32) (H : Heap) (locs : List Loc) (ls : Array Slot), k + (1320) ≤ 1320 → z + 6 * (1320) ≤ 7920 → (y0 = 0 ∨ y0 = 1) → va_P (gD G) vwCl (wOB G a o) H → va_D A (wOB G a o) → va_S A s.heap H locs → lv_has ls 15 [(0, .ref (a 0)), (1, .int x1), (2, .int x2)] → wj_b_L_kept_101 Q o x1 x2 y0 → W p l e ({ frames := 21, cells := 1320, slots := 7920, locals := 544 } : Room) s m ([.ref (a 0)] : List Value).toArray below meth c H locs k z (MQ below (va_Qi (fun (r : Int32) (u : OB) => (r = 0 ∨ r = 1) ∧ Q r u) (mBk G A (fun (u : OB) => (wOB G a u))) A) ([.ref (a 0)] : List Value).toArray s 1320 7920 A) (F0 m 101 ls [.int y0]) := by
    intro k z o x1 x2 y0 H locs ls hbk hbz hz_y0 hP hD hS hl hw
    unfold wj_b_L_kept_101 at hw
    refine lv_aload_n hx hb dL_kept_101 rfl (lv_at hl 0 rfl) ?_
    refine kb_X5_mostRehearsals a o  hw ⟨hx, hb, hml, hown, hts⟩ (cwV 0 hts gL_kept_X5_mostRehearsals rfl rfl rfl (by decide +kernel) ⟨Nat.le_of_ble_eq_true rfl, Nat.le_of_ble_eq_true rfl⟩) hK hG hP hD hS hA hl.1 (Nat.le_of_ble_eq_true rfl) dL_kept_102 ⟨by show _ ≤ 1320; omega, by show _ ≤ 7920; omega⟩ (fun r122 o123 H locs hw hP hD hS => ?_)
    refine lv_if_ne (tgt := 112) hx hb dL_kept_105 (by decide) (fun cd124 => ?_) (fun cd124 => ?_)
    · have hw := hw.1 cd124
      refine lv_iconst (v := 0) hx hb dL_kept_112 (by decide) ?_
      exact J113 _ _ o123 x1 x2 y0 (0 : Int32) _ _ _ (by omega) (by omega) hz_y0 (Or.inl rfl) hP hD hS hl hw
    · have hw := hw.2 cd124
      refine lv_iconst (v := 1) hx hb dL_kept_108 (by decide) ?_
      refine lv_goto (tgt := 113) hx hb dL_kept_109 (by decide) ?_
      exact J113 _ _ o123 x1 x2 y0 (1 : Int32) _ _ _ (by omega) (by omega) hz_y0 (Or.inr rfl) hP hD hS hl hw
  unfold wb_L_kept at hw
  refine lv_aload_n hx hb dL_kept_0 rfl (lv_at hl 0 rfl) ?_
  refine kb_X5_rehearsals a o  hw ⟨hx, hb, hml, hown, hts⟩ (cwV 0 hts gL_kept_X5_rehearsals rfl rfl rfl (by decide +kernel) ⟨Nat.le_of_ble_eq_true rfl, Nat.le_of_ble_eq_true rfl⟩) hK hG hP hD hS hA hl.1 (Nat.le_of_ble_eq_true rfl) dL_kept_1 ⟨by show _ ≤ 1320; omega, by show _ ≤ 7920; omega⟩ (fun r1 o2 H locs hw hP hD hS => ?_)
  refine lv_istore_n (lv' := [(1, .int r1), (0, .ref (a 0))]) hx hb dL_kept_4 rfl hl (by decide) rfl (fun ls hl => ?_)
  refine lv_aload_n hx hb dL_kept_5 rfl (lv_at hl 1 rfl) ?_
  refine kb_X5_bestChoice a o2  hw ⟨hx, hb, hml, hown, hts⟩ (cwV 0 hts gL_kept_X5_bestChoice rfl rfl rfl (by decide +kernel) ⟨Nat.le_of_ble_eq_true rfl, Nat.le_of_ble_eq_true rfl⟩) hK hG hP hD hS hA hl.1 (Nat.le_of_ble_eq_true rfl) dL_kept_6 ⟨by show _ ≤ 1320; omega, by show _ ≤ 7920; omega⟩ (fun r3 o4 H locs hw hP hD hS => ?_)
  refine lv_istore_n (lv' := [(2, .int r3), (1, .int r1), (0, .ref (a 0))]) hx hb dL_kept_9 rfl hl (by decide) rfl (fun ls hl => ?_)
  refine lv_aload_n hx hb dL_kept_10 rfl (lv_at hl 2 rfl) ?_
  refine kb_X5_conflictsByPairs a o4  hw ⟨hx, hb, hml, hown, hts⟩ (cwV 0 hts gL_kept_X5_conflictsByPairs rfl rfl rfl (by decide +kernel) ⟨Nat.le_of_ble_eq_true rfl, Nat.le_of_ble_eq_true rfl⟩) hK hG hP hD hS hA hl.1 (Nat.le_of_ble_eq_true rfl) dL_kept_11 ⟨by show _ ≤ 1320; omega, by show _ ≤ 7920; omega⟩ (fun r5 o6 H locs hw hP hD hS => ?_)
  refine lv_aload_n hx hb dL_kept_14 rfl (lv_at hl 2 rfl) ?_
  refine kb_X5_conflictsBySweep a o6  hw ⟨hx, hb, hml, hown, hts⟩ (cwV 0 hts gL_kept_X5_conflictsBySweep rfl rfl rfl (by decide +kernel) ⟨Nat.le_of_ble_eq_true rfl, Nat.le_of_ble_eq_true rfl⟩) hK hG hP hD hS hA hl.1 (Nat.le_of_ble_eq_true rfl) dL_kept_15 ⟨by show _ ≤ 1320; omega, by show _ ≤ 7920; omega⟩ (fun r7 o8 H locs hw hP hD hS => ?_)
  refine lv_icmp_ne (tgt := 148) hx hb dL_kept_18 (by decide) (fun cd9 => ?_) (fun cd9 => ?_)
  · have hw := hw.1 cd9
    exact J148 _ _ o8 r1 r3 _ _ _ (by omega) (by omega) hP hD hS (lv_sub hl [2, 1, 0] rfl) hw
  · have hw := hw.2 cd9
    refine lv_aload_n hx hb dL_kept_21 rfl (lv_at hl 2 rfl) ?_
    refine kb_X5_roomsBySweep a o8  hw ⟨hx, hb, hml, hown, hts⟩ (cwV 0 hts gL_kept_X5_roomsBySweep rfl rfl rfl (by decide +kernel) ⟨Nat.le_of_ble_eq_true rfl, Nat.le_of_ble_eq_true rfl⟩) hK hG hP hD hS hA hl.1 (Nat.le_of_ble_eq_true rfl) dL_kept_22 ⟨by show _ ≤ 1320; omega, by show _ ≤ 7920; omega⟩ (fun r93 o94 H locs hw hP hD hS => ?_)
    refine lv_aload_n hx hb dL_kept_25 rfl (lv_at hl 2 rfl) ?_
    refine kb_X5_roomsByGiving a o94  hw ⟨hx, hb, hml, hown, hts⟩ (cwV 0 hts gL_kept_X5_roomsByGiving rfl rfl rfl (by decide +kernel) ⟨Nat.le_of_ble_eq_true rfl, Nat.le_of_ble_eq_true rfl⟩) hK hG hP hD hS hA hl.1 (Nat.le_of_ble_eq_true rfl) dL_kept_26 ⟨by show _ ≤ 1320; omega, by show _ ≤ 7920; omega⟩ (fun r95 o96 H locs hw hP hD hS => ?_)
    refine lv_icmp_ne (tgt := 148) hx hb dL_kept_29 (by decide) (fun cd97 => ?_) (fun cd97 => ?_)
    · have hw := hw.1 cd97
      exact J148 _ _ o96 r1 r3 _ _ _ (by omega) (by omega) hP hD hS (lv_sub hl [2, 1, 0] rfl) hw
    · have hw := hw.2 cd97
      refine lv_aload_n hx hb dL_kept_32 rfl (lv_at hl 2 rfl) ?_
      refine kb_X5_bestByTrying a o96  hw ⟨hx, hb, hml, hown, hts⟩ (cwV 0 hts gL_kept_X5_bestByTrying rfl rfl rfl (by decide +kernel) ⟨Nat.le_of_ble_eq_true rfl, Nat.le_of_ble_eq_true rfl⟩) hK hG hP hD hS hA hl.1 (Nat.le_of_ble_eq_true rfl) dL_kept_33 ⟨by show _ ≤ 1320; omega, by show _ ≤ 7920; omega⟩ (fun r98 o99 H locs hw hP hD hS => ?_)
      refine lv_aload_n hx hb dL_kept_36 rfl (lv_at hl 2 rfl) ?_
      refine kb_X5_bestByTable a o99  hw ⟨hx, hb, hml, hown, hts⟩ (cwV 0 hts gL_kept_X5_bestByTable rfl rfl rfl (by decide +kernel) ⟨Nat.le_of_ble_eq_true rfl, Nat.le_of_ble_eq_true rfl⟩) hK hG hP hD hS hA hl.1 (Nat.le_of_ble_eq_true rfl) dL_kept_37 ⟨by show _ ≤ 1320; omega, by show _ ≤ 7920; omega⟩ (fun r100 o101 H locs hw hP hD hS => ?_)
      refine lv_icmp_ne (tgt := 148) hx hb dL_kept_40 (by decide) (fun cd102 => ?_) (fun cd102 => ?_)
      · have hw := hw.1 cd102
        exact J148 _ _ o101 r1 r3 _ _ _ (by omega) (by omega) hP hD hS (lv_sub hl [2, 1, 0] rfl) hw
      · have hw := hw.2 cd102
        refine lv_aload_n hx hb dL_kept_43 rfl (lv_at hl 2 rfl) ?_
        refine kb_X5_bookedFame a o101  hw ⟨hx, hb, hml, hown, hts⟩ (cwV 0 hts gL_kept_X5_bookedFame rfl rfl rfl (by decide +kernel) ⟨Nat.le_of_ble_eq_true rfl, Nat.le_of_ble_eq_true rfl⟩) hK hG hP hD hS hA hl.1 (Nat.le_of_ble_eq_true rfl) dL_kept_44 ⟨by show _ ≤ 1320; omega, by show _ ≤ 7920; omega⟩ (fun r103 o104 H locs hw hP hD hS => ?_)
        refine lv_aload_n hx hb dL_kept_47 rfl (lv_at hl 2 rfl) ?_
        refine kb_X5_bestByTable a o104  hw ⟨hx, hb, hml, hown, hts⟩ (cwV 0 hts gL_kept_X5_bestByTable rfl rfl rfl (by decide +kernel) ⟨Nat.le_of_ble_eq_true rfl, Nat.le_of_ble_eq_true rfl⟩) hK hG hP hD hS hA hl.1 (Nat.le_of_ble_eq_true rfl) dL_kept_48 ⟨by show _ ≤ 1320; omega, by show _ ≤ 7920; omega⟩ (fun r105 o106 H locs hw hP hD hS => ?_)
        refine lv_icmp_gt (tgt := 148) hx hb dL_kept_51 (by decide) (fun cd107 => ?_) (fun cd107 => ?_)
        · have hw := hw.1 cd107
          exact J148 _ _ o106 r1 r3 _ _ _ (by omega) (by omega) hP hD hS (lv_sub hl [2, 1, 0] rfl) hw
        · have hw := hw.2 cd107
          refine lv_aload_n hx hb dL_kept_54 rfl (lv_at hl 2 rfl) ?_
          refine kb_X5_booked a o106  hw ⟨hx, hb, hml, hown, hts⟩ (cwV 0 hts gL_kept_X5_booked rfl rfl rfl (by decide +kernel) ⟨Nat.le_of_ble_eq_true rfl, Nat.le_of_ble_eq_true rfl⟩) hK hG hP hD hS hA hl.1 (Nat.le_of_ble_eq_true rfl) dL_kept_55 ⟨by show _ ≤ 1320; omega, by show _ ≤ 7920; omega⟩ (fun r108 o109 H locs hw hP hD hS => ?_)
          refine lv_aload_n hx hb dL_kept_58 rfl (lv_at hl 2 rfl) ?_
          refine kb_X5_mostRehearsals a o109  hw ⟨hx, hb, hml, hown, hts⟩ (cwV 0 hts gL_kept_X5_mostRehearsals rfl rfl rfl (by decide +kernel) ⟨Nat.le_of_ble_eq_true rfl, Nat.le_of_ble_eq_true rfl⟩) hK hG hP hD hS hA hl.1 (Nat.le_of_ble_eq_true rfl) dL_kept_59 ⟨by show _ ≤ 1320; omega, by show _ ≤ 7920; omega⟩ (fun r110 o111 H locs hw hP hD hS => ?_)
          refine lv_icmp_gt (tgt := 148) hx hb dL_kept_62 (by decide) (fun cd112 => ?_) (fun cd112 => ?_)
          · have hw := hw.1 cd112
            exact J148 _ _ o111 r1 r3 _ _ _ (by omega) (by omega) hP hD hS (lv_sub hl [2, 1, 0] rfl) hw
          · have hw := hw.2 cd112
            refine lv_aload_n hx hb dL_kept_65 rfl (lv_at hl 2 rfl) ?_
            refine kb_X5_savedStates a o111  hw ⟨hx, hb, hml, hown, hts⟩ (cwV 0 hts gL_kept_X5_savedStates rfl rfl rfl (by decide +kernel) ⟨Nat.le_of_ble_eq_true rfl, Nat.le_of_ble_eq_true rfl⟩) hK hG hP hD hS hA hl.1 (Nat.le_of_ble_eq_true rfl) dL_kept_66 ⟨by show _ ≤ 1320; omega, by show _ ≤ 7920; omega⟩ (fun r113 o114 H locs hw hP hD hS => ?_)
            refine lv_i2l hx hb dL_kept_69 rfl ?_
            refine lv_lconst (v := 0) hx hb dL_kept_70 (by decide) ?_
            refine lv_ldc2 (v := 6) hx hb hown (hts _ k_L_kept_c172) dL_kept_71 ?_
            refine kcR_i (kr_S [] ⟨hx, hb, hml, hown, hts⟩ (cb_L_in l hst G r113.toInt64 (0 : Int64) (6 : Int64) hw H.size) (va_cwS 3 hts gL_kept_L_in rfl rfl rfl (by decide +kernel) ⟨Nat.le_of_ble_eq_true rfl, Nat.le_of_ble_eq_true rfl⟩) hK hG hP hD hS hA [] rfl rfl rfl hl.1 rfl (Nat.le_of_ble_eq_true rfl) dL_kept_74 ⟨by show _ ≤ 1320; omega, by show _ ≤ 7920; omega⟩) hP hD hS hA [] rfl (fun r115 u H locs hw hP hS => ?_)
            obtain ⟨hz_r115, hw⟩ := hw
            refine lv_if_eq (tgt := 148) hx hb dL_kept_77 (by decide) (fun cd117 => ?_) (fun cd117 => ?_)
            · have hw := hw.1 cd117
              exact J148 _ _ o114 r1 r3 _ _ _ (by omega) (by omega) hP hD hS (lv_sub hl [2, 1, 0] rfl) hw
            · have hw := hw.2 cd117
              refine lv_iload_n hx hb dL_kept_80 rfl (lv_at hl 1 rfl) ?_
              refine lv_i2l hx hb dL_kept_81 rfl ?_
              refine lv_lconst (v := 0) hx hb dL_kept_82 (by decide) ?_
              refine lv_ldc2 (v := 14) hx hb hown (hts _ k_L_kept_c178) dL_kept_83 ?_
              refine kcR_i (kr_S [] ⟨hx, hb, hml, hown, hts⟩ (cb_L_in l hst G r1.toInt64 (0 : Int64) (14 : Int64) hw H.size) (va_cwS 3 hts gL_kept_L_in rfl rfl rfl (by decide +kernel) ⟨Nat.le_of_ble_eq_true rfl, Nat.le_of_ble_eq_true rfl⟩) hK hG hP hD hS hA [] rfl rfl rfl hl.1 rfl (Nat.le_of_ble_eq_true rfl) dL_kept_86 ⟨by show _ ≤ 1320; omega, by show _ ≤ 7920; omega⟩) hP hD hS hA [] rfl (fun r118 u H locs hw hP hS => ?_)
              obtain ⟨hz_r118, hw⟩ := hw
              refine lv_if_eq (tgt := 148) hx hb dL_kept_89 (by decide) (fun cd120 => ?_) (fun cd120 => ?_)
              · have hw := hw.1 cd120
                exact J148 _ _ o114 r1 r3 _ _ _ (by omega) (by omega) hP hD hS (lv_sub hl [2, 1, 0] rfl) hw
              · have hw := hw.2 cd120
                refine lv_iload_n hx hb dL_kept_92 rfl (lv_at hl 1 rfl) ?_
                refine lv_if_ne (tgt := 100) hx hb dL_kept_93 (by decide) (fun cd121 => ?_) (fun cd121 => ?_)
                · have hw := hw.1 cd121
                  refine lv_iconst (v := 0) hx hb dL_kept_100 (by decide) ?_
                  exact J101 _ _ o114 r1 r3 (0 : Int32) _ _ _ (by omega) (by omega) (Or.inl rfl) hP hD hS (lv_sub hl [2, 1, 0] rfl) hw
                · have hw := hw.2 cd121
                  refine lv_iconst (v := 1) hx hb dL_kept_96 (by decide) ?_
                  refine lv_goto (tgt := 101) hx hb dL_kept_97 (by decide) ?_
                  exact J101 _ _ o114 r1 r3 (1 : Int32) _ _ _ (by omega) (by omega) (Or.inr rfl) hP hD hS (lv_sub hl [2, 1, 0] rfl) hw
