set_option maxRecDepth 100000 in
theorem k_L_follows_c21 : Cond.constantLong RL 21 (-9000000000000000003) ∈ wsL_follows := by decide +kernel
set_option maxHeartbeats 16000000 in
set_option maxRecDepth 100000 in
theorem cb_L_follows (l : Launch) (hst : l.stackTraces = false) (G : mG) (a : Nat → Nat) (o : OB) (a1 : Int32) {Q : Int32 → OB → Prop} (hw : wb_L_follows o a1 Q) (sz : Nat) :
    Met l yL_follows wsL_follows ({ frames := 9, cells := 284, slots := 1704, locals := 158 } : Room) (va_Pc [.ref (a 0), .int a1] (mPre G (wOB G a o) sz)) (va_Qi (fun (r : Int32) (u : OB) => (r = 0 ∨ r = 1) ∧ Q r u) (mBk G (va_A (wOB G a o) sz) (fun (u : OB) => (wOB G a u))) (va_A (wOB G a o) sz)) 284 1704 (va_A (wOB G a o) sz) := by
  refine ms_i (cc := cL_follows) (maxL := 14) (ret := some .boolean) (post := (fun (r : Int32) (u : OB) => (r = 0 ∨ r = 1) ∧ Q r u)) (w1 := (fun (u : OB) => (wOB G a u))) (by decide) rfl (Nat.le_of_ble_eq_true rfl) ?_ sz
  intro p e s m below meth c A ls H locs hx hb hr hml hown hts hlocks hK hG hP hD hS hA hl
  have hown : s.vm.findClass RL = some m.cls := hown
  have hl : lv_has ls 14 [(0, .ref (a 0)), (1, .int a1)] := hl
  have J700 : ∀ (k z : Nat) (o : OB) (x1 : Int32) (x2 : Int32) (x3 : Int32) (x4 : Int32) (x5 : Int32) (x6 : Int32) (x7 : Int32) (x8 : Int32) (x9 : Int32) (x10 : Int64) (y0 : Int32) (H : Heap) (locs : List Loc) (ls : Array Slot), k + (3) ≤ 284 → z + 6 * (3) ≤ 1704 → (x7 = 0 ∨ x7 = 1) → (y0 = 0 ∨ y0 = 1) → va_P (gD G) vwCl (wOB G a o) H → va_D A (wOB G a o) → va_S A s.heap H locs → lv_has ls 14 [(0, .ref (a 0)), (1, .int x1), (2, .int x2), (3, .int x3), (4, .int x4), (5, .int x5), (6, .int x6), (7, .int x7), (8, .int x8), (9, .int x9), (10, .long x10)] → wj_b_L_follows_700 Q o x1 x2 x3 x4 x5 x6 x7 x8 x9 x10 y0 → W p l e ({ frames := 9, cells := 284, slots := 1704, locals := 158 } : Room) s m ([.ref (a 0), .int a1] : List Value).toArray below meth c H locs k z (MQ below (va_Qi (fun (r : Int32) (u : OB) => (r = 0 ∨ r = 1) ∧ Q r u) (mBk G A (fun (u : OB) => (wOB G a u))) A) ([.ref (a 0), .int a1] : List Value).toArray s 284 1704 A) (F0 m 700 ls [.int y0]) := by
    intro k z o x1 x2 x3 x4 x5 x6 x7 x8 x9 x10 y0 H locs ls hbk hbz hz_x7 hz_y0 hP hD hS hl hw
    unfold wj_b_L_follows_700 at hw
    refine lv_istore (lv' := [(7, .int y0), (0, .ref (a 0)), (1, .int x1), (2, .int x2), (3, .int x3), (4, .int x4), (5, .int x5), (6, .int x6), (8, .int x8), (9, .int x9), (10, .long x10)]) hx hb dL_follows_700 hl (by decide) rfl (fun ls hl => ?_)
    refine lv_iload hx hb dL_follows_702 (lv_at hl 0 rfl) ?_
    refine lv_if_eq (tgt := 764) hx hb dL_follows_704 (by decide) (fun cd26 => ?_) (fun cd26 => ?_)
    · have hw := hw.1 cd26
      refine lv_iconst (v := 0) hx hb dL_follows_764 (by decide) ?_
      refine W.widen (k := 284) (n := 1704) (by omega) (by omega) ?_
      exact fin_z o hx hb hr (nz (Or.inl rfl)) hlocks hK hS hP hD ⟨(Or.inl rfl), hw⟩ dL_follows_765
    · have hw := hw.2 cd26
      refine lv_aload_n hx hb dL_follows_707 rfl (lv_at hl 1 rfl) ?_
      refine kb_X5_bestByTable a o  hw ⟨hx, hb, hml, hown, hts⟩ (cwV 0 hts gL_follows_X5_bestByTable rfl rfl rfl (by decide +kernel) ⟨Nat.le_of_ble_eq_true rfl, Nat.le_of_ble_eq_true rfl⟩) hK hG hP hD hS hA hl.1 (Nat.le_of_ble_eq_true rfl) dL_follows_708 ⟨by show _ ≤ 284; omega, by show _ ≤ 1704; omega⟩ (fun r27 o28 H locs hw hP hD hS => ?_)
      refine lv_iload_n hx hb dL_follows_711 rfl (lv_at hl 4 rfl) ?_
      refine lv_icmp_ne (tgt := 764) hx hb dL_follows_712 (by decide) (fun cd29 => ?_) (fun cd29 => ?_)
      · have hw := hw.1 cd29
        refine lv_iconst (v := 0) hx hb dL_follows_764 (by decide) ?_
        refine W.widen (k := 284) (n := 1704) (by omega) (by omega) ?_
        exact fin_z o28 hx hb hr (nz (Or.inl rfl)) hlocks hK hS hP hD ⟨(Or.inl rfl), hw⟩ dL_follows_765
      · have hw := hw.2 cd29
        refine lv_aload_n hx hb dL_follows_715 rfl (lv_at hl 1 rfl) ?_
        refine kb_X5_bookedFame a o28  hw ⟨hx, hb, hml, hown, hts⟩ (cwV 0 hts gL_follows_X5_bookedFame rfl rfl rfl (by decide +kernel) ⟨Nat.le_of_ble_eq_true rfl, Nat.le_of_ble_eq_true rfl⟩) hK hG hP hD hS hA hl.1 (Nat.le_of_ble_eq_true rfl) dL_follows_716 ⟨by show _ ≤ 284; omega, by show _ ≤ 1704; omega⟩ (fun r30 o31 H locs hw hP hD hS => ?_)
        refine lv_iload hx hb dL_follows_719 (lv_at hl 5 rfl) ?_
        refine lv_icmp_ne (tgt := 764) hx hb dL_follows_721 (by decide) (fun cd32 => ?_) (fun cd32 => ?_)
        · have hw := hw.1 cd32
          refine lv_iconst (v := 0) hx hb dL_follows_764 (by decide) ?_
          refine W.widen (k := 284) (n := 1704) (by omega) (by omega) ?_
          exact fin_z o31 hx hb hr (nz (Or.inl rfl)) hlocks hK hS hP hD ⟨(Or.inl rfl), hw⟩ dL_follows_765
        · have hw := hw.2 cd32
          refine lv_aload_n hx hb dL_follows_724 rfl (lv_at hl 1 rfl) ?_
          refine lv_iconst (v := 1) hx hb dL_follows_725 (by decide) ?_
          refine kI_l (kr_SW [] ⟨hx, hb, hml, hown, hts⟩ (cb_L_goBack l hst G a o31 (1 : Int32) hw H.size) (vx_cwSW 2 hts gL_follows_L_goBack rfl rfl rfl (by decide +kernel) ⟨Nat.le_of_ble_eq_true rfl, Nat.le_of_ble_eq_true rfl⟩) hK hG hP hD hS hA (List.range 51) nd51 (rg51 G a _) rfl hl.1 rfl (Nat.le_of_ble_eq_true rfl) dL_follows_726 ⟨by show _ ≤ 284; omega, by show _ ≤ 1704; omega⟩) hP hD hS hA (fun r33 o34 H locs hw hP hD hS => ?_)
          refine lv_lconst (v := 0) hx hb dL_follows_729 (by decide) ?_
          refine W.lcmp hx hb dL_follows_730 ?_
          refine lv_if_ne (tgt := 764) hx hb dL_follows_731 (by decide) (fun cd35 => ?_) (fun cd35 => ?_)
          · have hw := hw.1 cd35
            refine lv_iconst (v := 0) hx hb dL_follows_764 (by decide) ?_
            refine W.widen (k := 284) (n := 1704) (by omega) (by omega) ?_
            exact fin_z o34 hx hb hr (nz (Or.inl rfl)) hlocks hK hS hP hD ⟨(Or.inl rfl), hw⟩ dL_follows_765
          · have hw := hw.2 cd35
            refine lv_aload_n hx hb dL_follows_734 rfl (lv_at hl 1 rfl) ?_
            refine kb_X5_rehearsals a o34  hw ⟨hx, hb, hml, hown, hts⟩ (cwV 0 hts gL_follows_X5_rehearsals rfl rfl rfl (by decide +kernel) ⟨Nat.le_of_ble_eq_true rfl, Nat.le_of_ble_eq_true rfl⟩) hK hG hP hD hS hA hl.1 (Nat.le_of_ble_eq_true rfl) dL_follows_735 ⟨by show _ ≤ 284; omega, by show _ ≤ 1704; omega⟩ (fun r36 o37 H locs hw hP hD hS => ?_)
            refine lv_iload_n hx hb dL_follows_738 rfl (lv_at hl 3 rfl) ?_
            refine lv_icmp_ne (tgt := 764) hx hb dL_follows_739 (by decide) (fun cd38 => ?_) (fun cd38 => ?_)
            · have hw := hw.1 cd38
              refine lv_iconst (v := 0) hx hb dL_follows_764 (by decide) ?_
              refine W.widen (k := 284) (n := 1704) (by omega) (by omega) ?_
              exact fin_z o37 hx hb hr (nz (Or.inl rfl)) hlocks hK hS hP hD ⟨(Or.inl rfl), hw⟩ dL_follows_765
            · have hw := hw.2 cd38
              refine lv_aload_n hx hb dL_follows_742 rfl (lv_at hl 1 rfl) ?_
              refine kb_X5_bookedFame a o37  hw ⟨hx, hb, hml, hown, hts⟩ (cwV 0 hts gL_follows_X5_bookedFame rfl rfl rfl (by decide +kernel) ⟨Nat.le_of_ble_eq_true rfl, Nat.le_of_ble_eq_true rfl⟩) hK hG hP hD hS hA hl.1 (Nat.le_of_ble_eq_true rfl) dL_follows_743 ⟨by show _ ≤ 284; omega, by show _ ≤ 1704; omega⟩ (fun r39 o40 H locs hw hP hD hS => ?_)
              refine lv_iload hx hb dL_follows_746 (lv_at hl 5 rfl) ?_
              refine lv_icmp_ne (tgt := 764) hx hb dL_follows_748 (by decide) (fun cd41 => ?_) (fun cd41 => ?_)
              · have hw := hw.1 cd41
                refine lv_iconst (v := 0) hx hb dL_follows_764 (by decide) ?_
                refine W.widen (k := 284) (n := 1704) (by omega) (by omega) ?_
                exact fin_z o40 hx hb hr (nz (Or.inl rfl)) hlocks hK hS hP hD ⟨(Or.inl rfl), hw⟩ dL_follows_765
              · have hw := hw.2 cd41
                refine lv_aload_n hx hb dL_follows_751 rfl (lv_at hl 1 rfl) ?_
                refine kI_l (kr_SW [] ⟨hx, hb, hml, hown, hts⟩ (cb_L_undo l hst G a o40 hw H.size) (vx_cwSW 1 hts gL_follows_L_undo rfl rfl rfl (by decide +kernel) ⟨Nat.le_of_ble_eq_true rfl, Nat.le_of_ble_eq_true rfl⟩) hK hG hP hD hS hA (List.range 51) nd51 (rg51 G a _) rfl hl.1 rfl (Nat.le_of_ble_eq_true rfl) dL_follows_752 ⟨by show _ ≤ 284; omega, by show _ ≤ 1704; omega⟩) hP hD hS hA (fun r42 o43 H locs hw hP hD hS => ?_)
                refine lv_lconst (v := 0) hx hb dL_follows_755 (by decide) ?_
                refine W.lcmp hx hb dL_follows_756 ?_
                refine lv_if_ne (tgt := 764) hx hb dL_follows_757 (by decide) (fun cd44 => ?_) (fun cd44 => ?_)
                · have hw := hw.1 cd44
                  refine lv_iconst (v := 0) hx hb dL_follows_764 (by decide) ?_
                  refine W.widen (k := 284) (n := 1704) (by omega) (by omega) ?_
                  exact fin_z o43 hx hb hr (nz (Or.inl rfl)) hlocks hK hS hP hD ⟨(Or.inl rfl), hw⟩ dL_follows_765
                · have hw := hw.2 cd44
                  refine lv_iconst (v := 1) hx hb dL_follows_760 (by decide) ?_
                  refine lv_goto (tgt := 765) hx hb dL_follows_761 (by decide) ?_
                  refine W.widen (k := 284) (n := 1704) (by omega) (by omega) ?_
                  exact fin_z o43 hx hb hr (nz (Or.inr rfl)) hlocks hK hS hP hD ⟨(Or.inr rfl), hw⟩ dL_follows_765
  have J699 : ∀ (k z : Nat) (o : OB) (x1 : Int32) (x2 : Int32) (x3 : Int32) (x4 : Int32) (x5 : Int32) (x6 : Int32) (x7 : Int32) (x8 : Int32) (x9 : Int32) (x10 : Int64) (H : Heap) (locs : List Loc) (ls : Array Slot), k + (3) ≤ 284 → z + 6 * (3) ≤ 1704 → (x7 = 0 ∨ x7 = 1) → va_P (gD G) vwCl (wOB G a o) H → va_D A (wOB G a o) → va_S A s.heap H locs → lv_has ls 14 [(0, .ref (a 0)), (1, .int x1), (2, .int x2), (3, .int x3), (4, .int x4), (5, .int x5), (6, .int x6), (7, .int x7), (8, .int x8), (9, .int x9), (10, .long x10)] → wj_b_L_follows_699 Q o x1 x2 x3 x4 x5 x6 x7 x8 x9 x10 → W p l e ({ frames := 9, cells := 284, slots := 1704, locals := 158 } : Room) s m ([.ref (a 0), .int a1] : List Value).toArray below meth c H locs k z (MQ below (va_Qi (fun (r : Int32) (u : OB) => (r = 0 ∨ r = 1) ∧ Q r u) (mBk G A (fun (u : OB) => (wOB G a u))) A) ([.ref (a 0), .int a1] : List Value).toArray s 284 1704 A) (F0 m 699 ls []) := by
    intro k z o x1 x2 x3 x4 x5 x6 x7 x8 x9 x10 H locs ls hbk hbz hz_x7 hP hD hS hl hw
    unfold wj_b_L_follows_699 at hw
    refine lv_iconst (v := 0) hx hb dL_follows_699 (by decide) ?_
    exact J700 _ _ o x1 x2 x3 x4 x5 x6 x7 x8 x9 x10 (0 : Int32) _ _ _ (by omega) (by omega) hz_x7 (Or.inl rfl) hP hD hS hl hw
  have J633 : ∀ (k z : Nat) (o : OB) (x1 : Int32) (x2 : Int32) (x3 : Int32) (x4 : Int32) (x5 : Int32) (x6 : Int32) (x7 : Int32) (x8 : Int32) (x9 : Int32) (H : Heap) (locs : List Loc) (ls : Array Slot), k + (5) ≤ 284 → z + 6 * (5) ≤ 1704 → (x7 = 0 ∨ x7 = 1) → va_P (gD G) vwCl (wOB G a o) H → va_D A (wOB G a o) → va_S A s.heap H locs → lv_has ls 14 [(0, .ref (a 0)), (1, .int x1), (2, .int x2), (3, .int x3), (4, .int x4), (5, .int x5), (6, .int x6), (7, .int x7), (8, .int x8), (9, .int x9)] → wj_b_L_follows_633 Q o x1 x2 x3 x4 x5 x6 x7 x8 x9 → W p l e ({ frames := 9, cells := 284, slots := 1704, locals := 158 } : Room) s m ([.ref (a 0), .int a1] : List Value).toArray below meth c H locs k z (MQ below (va_Qi (fun (r : Int32) (u : OB) => (r = 0 ∨ r = 1) ∧ Q r u) (mBk G A (fun (u : OB) => (wOB G a u))) A) ([.ref (a 0), .int a1] : List Value).toArray s 284 1704 A) (F0 m 633 ls []) := by
    intro k z o x1 x2 x3 x4 x5 x6 x7 x8 x9 H locs ls hbk hbz hz_x7 hP hD hS hl hw
    unfold wj_b_L_follows_633 at hw
    refine lv_aload_n hx hb dL_follows_633 rfl (lv_at hl 0 rfl) ?_
    refine kb_X5_pause a o  hw ⟨hx, hb, hml, hown, hts⟩ (cwV 0 hts gL_follows_X5_pause rfl rfl rfl (by decide +kernel) ⟨Nat.le_of_ble_eq_true rfl, Nat.le_of_ble_eq_true rfl⟩) hK hG hP hD hS hA hl.1 (Nat.le_of_ble_eq_true rfl) dL_follows_634 ⟨by show _ ≤ 284; omega, by show _ ≤ 1704; omega⟩ (fun r21 o22 H locs hw hP hD hS => ?_)
    refine lv_istore (lv' := [(9, .int r21), (0, .ref (a 0)), (1, .int x1), (2, .int x2), (3, .int x3), (4, .int x4), (5, .int x5), (6, .int x6), (7, .int x7), (8, .int x8)]) hx hb dL_follows_637 hl (by decide) rfl (fun ls hl => ?_)
    refine lv_aload_n hx hb dL_follows_639 rfl (lv_at hl 1 rfl) ?_
    refine lv_iconst (v := 0) hx hb dL_follows_640 (by decide) ?_
    refine kI_l (kr_SW [] ⟨hx, hb, hml, hown, hts⟩ (cb_L_changePause l hst G a o22 (0 : Int32) hw H.size) (vx_cwSW 2 hts gL_follows_L_changePause rfl rfl rfl (by decide +kernel) ⟨Nat.le_of_ble_eq_true rfl, Nat.le_of_ble_eq_true rfl⟩) hK hG hP hD hS hA (List.range 51) nd51 (rg51 G a _) rfl hl.1 rfl (Nat.le_of_ble_eq_true rfl) dL_follows_641 ⟨by show _ ≤ 284; omega, by show _ ≤ 1704; omega⟩) hP hD hS hA (fun r23 o24 H locs hw hP hD hS => ?_)
    refine lv_lstore (lv' := [(10, .long r23), (9, .int r21), (0, .ref (a 0)), (1, .int x1), (2, .int x2), (3, .int x3), (4, .int x4), (5, .int x5), (6, .int x6), (7, .int x7), (8, .int x8)]) hx hb dL_follows_644 hl (by decide) rfl (fun ls hl => ?_)
    refine lv_iload hx hb dL_follows_646 (lv_at hl 9 rfl) ?_
    refine lv_if_eq (tgt := 699) hx hb dL_follows_648 (by decide) (fun cd25 => ?_) (fun cd25 => ?_)
    · have hw := hw.1 cd25
      exact J699 _ _ o24 x1 x2 x3 x4 x5 x6 x7 x8 r21 r23 _ _ _ (by omega) (by omega) hz_x7 hP hD hS (lv_sub hl [2, 3, 4, 5, 6, 7, 8, 9, 10, 1, 0] rfl) hw
    · have hw := hw.2 cd25
      refine lv_lload hx hb dL_follows_651 (lv_at hl 0 rfl) ?_
      refine lv_iload hx hb dL_follows_653 (lv_at hl 1 rfl) ?_
      refine lv_i2l hx hb dL_follows_655 rfl ?_
      refine W.lcmp hx hb dL_follows_656 ?_
      refine lv_if_ne (tgt := 699) hx hb dL_follows_657 (by decide) (fun cd45 => ?_) (fun cd45 => ?_)
      · have hw := hw.1 cd45
        exact J699 _ _ o24 x1 x2 x3 x4 x5 x6 x7 x8 r21 r23 _ _ _ (by omega) (by omega) hz_x7 hP hD hS (lv_sub hl [2, 3, 4, 5, 6, 7, 8, 9, 10, 1, 0] rfl) hw
      · have hw := hw.2 cd45
        refine lv_aload_n hx hb dL_follows_660 rfl (lv_at hl 2 rfl) ?_
        refine kb_X5_conflictsByPairs a o24  hw ⟨hx, hb, hml, hown, hts⟩ (cwV 0 hts gL_follows_X5_conflictsByPairs rfl rfl rfl (by decide +kernel) ⟨Nat.le_of_ble_eq_true rfl, Nat.le_of_ble_eq_true rfl⟩) hK hG hP hD hS hA hl.1 (Nat.le_of_ble_eq_true rfl) dL_follows_661 ⟨by show _ ≤ 284; omega, by show _ ≤ 1704; omega⟩ (fun r46 o47 H locs hw hP hD hS => ?_)
        refine lv_iload hx hb dL_follows_664 (lv_at hl 7 rfl) ?_
        refine lv_icmp_gt (tgt := 699) hx hb dL_follows_666 (by decide) (fun cd48 => ?_) (fun cd48 => ?_)
        · have hw := hw.1 cd48
          exact J699 _ _ o47 x1 x2 x3 x4 x5 x6 x7 x8 r21 r23 _ _ _ (by omega) (by omega) hz_x7 hP hD hS (lv_sub hl [2, 3, 4, 5, 6, 7, 8, 9, 10, 1, 0] rfl) hw
        · have hw := hw.2 cd48
          refine lv_aload_n hx hb dL_follows_669 rfl (lv_at hl 2 rfl) ?_
          refine kb_X5_bestByTable a o47  hw ⟨hx, hb, hml, hown, hts⟩ (cwV 0 hts gL_follows_X5_bestByTable rfl rfl rfl (by decide +kernel) ⟨Nat.le_of_ble_eq_true rfl, Nat.le_of_ble_eq_true rfl⟩) hK hG hP hD hS hA hl.1 (Nat.le_of_ble_eq_true rfl) dL_follows_670 ⟨by show _ ≤ 284; omega, by show _ ≤ 1704; omega⟩ (fun r49 o50 H locs hw hP hD hS => ?_)
          refine lv_iload_n hx hb dL_follows_673 rfl (lv_at hl 5 rfl) ?_
          refine lv_icmp_lt (tgt := 699) hx hb dL_follows_674 (by decide) (fun cd51 => ?_) (fun cd51 => ?_)
          · have hw := hw.1 cd51
            exact J699 _ _ o50 x1 x2 x3 x4 x5 x6 x7 x8 r21 r23 _ _ _ (by omega) (by omega) hz_x7 hP hD hS (lv_sub hl [2, 3, 4, 5, 6, 7, 8, 9, 10, 1, 0] rfl) hw
          · have hw := hw.2 cd51
            refine lv_aload_n hx hb dL_follows_677 rfl (lv_at hl 2 rfl) ?_
            refine kI_l (kr_SW [] ⟨hx, hb, hml, hown, hts⟩ (cb_L_undo l hst G a o50 hw H.size) (vx_cwSW 1 hts gL_follows_L_undo rfl rfl rfl (by decide +kernel) ⟨Nat.le_of_ble_eq_true rfl, Nat.le_of_ble_eq_true rfl⟩) hK hG hP hD hS hA (List.range 51) nd51 (rg51 G a _) rfl hl.1 rfl (Nat.le_of_ble_eq_true rfl) dL_follows_678 ⟨by show _ ≤ 284; omega, by show _ ≤ 1704; omega⟩) hP hD hS hA (fun r52 o53 H locs hw hP hD hS => ?_)
            refine lv_lconst (v := 0) hx hb dL_follows_681 (by decide) ?_
            refine W.lcmp hx hb dL_follows_682 ?_
            refine lv_if_ne (tgt := 699) hx hb dL_follows_683 (by decide) (fun cd54 => ?_) (fun cd54 => ?_)
            · have hw := hw.1 cd54
              exact J699 _ _ o53 x1 x2 x3 x4 x5 x6 x7 x8 r21 r23 _ _ _ (by omega) (by omega) hz_x7 hP hD hS (lv_sub hl [2, 3, 4, 5, 6, 7, 8, 9, 10, 1, 0] rfl) hw
            · have hw := hw.2 cd54
              refine lv_aload_n hx hb dL_follows_686 rfl (lv_at hl 2 rfl) ?_
              refine kb_X5_pause a o53  hw ⟨hx, hb, hml, hown, hts⟩ (cwV 0 hts gL_follows_X5_pause rfl rfl rfl (by decide +kernel) ⟨Nat.le_of_ble_eq_true rfl, Nat.le_of_ble_eq_true rfl⟩) hK hG hP hD hS hA hl.1 (Nat.le_of_ble_eq_true rfl) dL_follows_687 ⟨by show _ ≤ 284; omega, by show _ ≤ 1704; omega⟩ (fun r55 o56 H locs hw hP hD hS => ?_)
              refine lv_iload hx hb dL_follows_690 (lv_at hl 1 rfl) ?_
              refine lv_icmp_ne (tgt := 699) hx hb dL_follows_692 (by decide) (fun cd57 => ?_) (fun cd57 => ?_)
              · have hw := hw.1 cd57
                exact J699 _ _ o56 x1 x2 x3 x4 x5 x6 x7 x8 r21 r23 _ _ _ (by omega) (by omega) hz_x7 hP hD hS (lv_sub hl [2, 3, 4, 5, 6, 7, 8, 9, 10, 1, 0] rfl) hw
              · have hw := hw.2 cd57
                refine lv_iconst (v := 1) hx hb dL_follows_695 (by decide) ?_
                refine lv_goto (tgt := 700) hx hb dL_follows_696 (by decide) ?_
                exact J700 _ _ o56 x1 x2 x3 x4 x5 x6 x7 x8 r21 r23 (1 : Int32) _ _ _ (by omega) (by omega) hz_x7 (Or.inr rfl) hP hD hS (lv_sub hl [2, 3, 4, 5, 6, 7, 8, 9, 10, 1, 0] rfl) hw
  have J631 : ∀ (k z : Nat) (o : OB) (x1 : Int32) (x2 : Int32) (x3 : Int32) (x4 : Int32) (x5 : Int32) (x6 : Int32) (x7 : Int32) (x8 : Int32) (x9 : Int32) (y0 : Int32) (H : Heap) (locs : List Loc) (ls : Array Slot), k + (5) ≤ 284 → z + 6 * (5) ≤ 1704 → (x7 = 0 ∨ x7 = 1) → (y0 = 0 ∨ y0 = 1) → va_P (gD G) vwCl (wOB G a o) H → va_D A (wOB G a o) → va_S A s.heap H locs → lv_has ls 14 [(0, .ref (a 0)), (1, .int x1), (2, .int x2), (3, .int x3), (4, .int x4), (5, .int x5), (6, .int x6), (7, .int x7), (8, .int x8), (9, .int x9)] → wj_b_L_follows_631 Q o x1 x2 x3 x4 x5 x6 x7 x8 x9 y0 → W p l e ({ frames := 9, cells := 284, slots := 1704, locals := 158 } : Room) s m ([.ref (a 0), .int a1] : List Value).toArray below meth c H locs k z (MQ below (va_Qi (fun (r : Int32) (u : OB) => (r = 0 ∨ r = 1) ∧ Q r u) (mBk G A (fun (u : OB) => (wOB G a u))) A) ([.ref (a 0), .int a1] : List Value).toArray s 284 1704 A) (F0 m 631 ls [.int y0]) := by
    intro k z o x1 x2 x3 x4 x5 x6 x7 x8 x9 y0 H locs ls hbk hbz hz_x7 hz_y0 hP hD hS hl hw
    unfold wj_b_L_follows_631 at hw
    refine lv_istore (lv' := [(7, .int y0), (0, .ref (a 0)), (1, .int x1), (2, .int x2), (3, .int x3), (4, .int x4), (5, .int x5), (6, .int x6), (8, .int x8), (9, .int x9)]) hx hb dL_follows_631 hl (by decide) rfl (fun ls hl => ?_)
    exact J633 _ _ o x1 x2 x3 x4 x5 x6 y0 x8 x9 _ _ _ (by omega) (by omega) hz_y0 hP hD hS (lv_sub hl [1, 2, 3, 4, 5, 6, 7, 0, 8, 9] rfl) hw
  have J630 : ∀ (k z : Nat) (o : OB) (x1 : Int32) (x2 : Int32) (x3 : Int32) (x4 : Int32) (x5 : Int32) (x6 : Int32) (x7 : Int32) (x8 : Int32) (x9 : Int32) (H : Heap) (locs : List Loc) (ls : Array Slot), k + (5) ≤ 284 → z + 6 * (5) ≤ 1704 → (x7 = 0 ∨ x7 = 1) → va_P (gD G) vwCl (wOB G a o) H → va_D A (wOB G a o) → va_S A s.heap H locs → lv_has ls 14 [(0, .ref (a 0)), (1, .int x1), (2, .int x2), (3, .int x3), (4, .int x4), (5, .int x5), (6, .int x6), (7, .int x7), (8, .int x8), (9, .int x9)] → wj_b_L_follows_630 Q o x1 x2 x3 x4 x5 x6 x7 x8 x9 → W p l e ({ frames := 9, cells := 284, slots := 1704, locals := 158 } : Room) s m ([.ref (a 0), .int a1] : List Value).toArray below meth c H locs k z (MQ below (va_Qi (fun (r : Int32) (u : OB) => (r = 0 ∨ r = 1) ∧ Q r u) (mBk G A (fun (u : OB) => (wOB G a u))) A) ([.ref (a 0), .int a1] : List Value).toArray s 284 1704 A) (F0 m 630 ls []) := by
    intro k z o x1 x2 x3 x4 x5 x6 x7 x8 x9 H locs ls hbk hbz hz_x7 hP hD hS hl hw
    unfold wj_b_L_follows_630 at hw
    refine lv_iconst (v := 0) hx hb dL_follows_630 (by decide) ?_
    exact J631 _ _ o x1 x2 x3 x4 x5 x6 x7 x8 x9 (0 : Int32) _ _ _ (by omega) (by omega) hz_x7 (Or.inl rfl) hP hD hS hl hw
  have J513 : ∀ (k z : Nat) (o : OB) (x1 : Int32) (x2 : Int32) (x3 : Int32) (x4 : Int32) (x5 : Int32) (x6 : Int32) (x7 : Int32) (x8 : Int32) (x9 : Int32) (H : Heap) (locs : List Loc) (ls : Array Slot), k + (12) ≤ 284 → z + 6 * (12) ≤ 1704 → (x7 = 0 ∨ x7 = 1) → va_P (gD G) vwCl (wOB G a o) H → va_D A (wOB G a o) → va_S A s.heap H locs → lv_has ls 14 [(0, .ref (a 0)), (1, .int x1), (2, .int x2), (3, .int x3), (4, .int x4), (5, .int x5), (6, .int x6), (7, .int x7), (8, .int x8), (9, .int x9)] → wj_b_L_follows_513 Q o x1 x2 x3 x4 x5 x6 x7 x8 x9 → W p l e ({ frames := 9, cells := 284, slots := 1704, locals := 158 } : Room) s m ([.ref (a 0), .int a1] : List Value).toArray below meth c H locs k z (MQ below (va_Qi (fun (r : Int32) (u : OB) => (r = 0 ∨ r = 1) ∧ Q r u) (mBk G A (fun (u : OB) => (wOB G a u))) A) ([.ref (a 0), .int a1] : List Value).toArray s 284 1704 A) (F0 m 513 ls []) := by
    intro k z o x1 x2 x3 x4 x5 x6 x7 x8 x9 H locs ls hbk hbz hz_x7 hP hD hS hl hw
    unfold wj_b_L_follows_513 at hw
    refine lv_iload hx hb dL_follows_513 (lv_at hl 7 rfl) ?_
    refine lv_if_eq (tgt := 633) hx hb dL_follows_515 (by decide) (fun cd20 => ?_) (fun cd20 => ?_)
    · have hw := hw.1 cd20
      exact J633 _ _ o x1 x2 x3 x4 x5 x6 x7 x8 x9 _ _ _ (by omega) (by omega) hz_x7 hP hD hS hl hw
    · have hw := hw.2 cd20
      refine lv_iload_n hx hb dL_follows_518 rfl (lv_at hl 2 rfl) ?_
      refine lv_bipush (v := 14) hx hb dL_follows_519 (by decide) ?_
      refine lv_icmp_ge (tgt := 633) hx hb dL_follows_521 (by decide) (fun cd58 => ?_) (fun cd58 => ?_)
      · have hw := hw.1 cd58
        exact J633 _ _ o x1 x2 x3 x4 x5 x6 x7 x8 x9 _ _ _ (by omega) (by omega) hz_x7 hP hD hS hl hw
      · have hw := hw.2 cd58
        refine lv_iload_n hx hb dL_follows_524 rfl (lv_at hl 1 rfl) ?_
        refine lv_bipush (v := 95) hx hb dL_follows_525 (by decide) ?_
        refine lv_irem hx hb dL_follows_527 (by decide) ?_
        refine lv_istore (lv' := [(9, .int (x1 - x1 / (95 : Int32) * (95 : Int32))), (0, .ref (a 0)), (1, .int x1), (2, .int x2), (3, .int x3), (4, .int x4), (5, .int x5), (6, .int x6), (7, .int x7), (8, .int x8)]) hx hb dL_follows_528 hl (by decide) rfl (fun ls hl => ?_)
        refine lv_aload_n hx hb dL_follows_530 rfl (lv_at hl 1 rfl) ?_
        refine lv_iload hx hb dL_follows_531 (lv_at hl 0 rfl) ?_
        refine lv_iload hx hb dL_follows_533 (lv_at hl 0 rfl) ?_
        refine lv_iconst (v := 1) hx hb dL_follows_535 (by decide) ?_
        refine lv_iadd hx hb dL_follows_536 ?_
        refine lv_iconst (v := 1) hx hb dL_follows_537 (by decide) ?_
        refine lv_iload_n hx hb dL_follows_538 rfl (lv_at hl 2 rfl) ?_
        refine lv_bipush (v := 50) hx hb dL_follows_539 (by decide) ?_
        refine lv_irem hx hb dL_follows_541 (by decide) ?_
        refine lv_iadd hx hb dL_follows_542 ?_
        refine kI_l (kr_SW [] ⟨hx, hb, hml, hown, hts⟩ (cb_L_add l hst G a o (x1 - x1 / (95 : Int32) * (95 : Int32)) ((x1 - x1 / (95 : Int32) * (95 : Int32)) + (1 : Int32)) ((1 : Int32) + (x1 - x1 / (50 : Int32) * (50 : Int32))) hw H.size) (vx_cwSW 4 hts gL_follows_L_add rfl rfl rfl (by decide +kernel) ⟨Nat.le_of_ble_eq_true rfl, Nat.le_of_ble_eq_true rfl⟩) hK hG hP hD hS hA (List.range 51) nd51 (rg51 G a _) rfl hl.1 rfl (Nat.le_of_ble_eq_true rfl) dL_follows_543 ⟨by show _ ≤ 284; omega, by show _ ≤ 1704; omega⟩) hP hD hS hA (fun r59 o60 H locs hw hP hD hS => ?_)
        refine lv_iload_n hx hb dL_follows_546 rfl (lv_at hl 3 rfl) ?_
        refine lv_i2l hx hb dL_follows_547 rfl ?_
        refine W.lcmp hx hb dL_follows_548 ?_
        refine lv_if_ne (tgt := 630) hx hb dL_follows_549 (by decide) (fun cd61 => ?_) (fun cd61 => ?_)
        · have hw := hw.1 cd61
          exact J630 _ _ o60 x1 x2 x3 x4 x5 x6 x7 x8 (x1 - x1 / (95 : Int32) * (95 : Int32)) _ _ _ (by omega) (by omega) hz_x7 hP hD hS (lv_sub hl [1, 2, 3, 4, 5, 6, 7, 8, 9, 0] rfl) hw
        · have hw := hw.2 cd61
          refine lv_aload_n hx hb dL_follows_552 rfl (lv_at hl 1 rfl) ?_
          refine kb_X5_bestByTable a o60  hw ⟨hx, hb, hml, hown, hts⟩ (cwV 0 hts gL_follows_X5_bestByTable rfl rfl rfl (by decide +kernel) ⟨Nat.le_of_ble_eq_true rfl, Nat.le_of_ble_eq_true rfl⟩) hK hG hP hD hS hA hl.1 (Nat.le_of_ble_eq_true rfl) dL_follows_553 ⟨by show _ ≤ 284; omega, by show _ ≤ 1704; omega⟩ (fun r62 o63 H locs hw hP hD hS => ?_)
          refine lv_iload_n hx hb dL_follows_556 rfl (lv_at hl 4 rfl) ?_
          refine lv_icmp_lt (tgt := 630) hx hb dL_follows_557 (by decide) (fun cd64 => ?_) (fun cd64 => ?_)
          · have hw := hw.1 cd64
            exact J630 _ _ o63 x1 x2 x3 x4 x5 x6 x7 x8 (x1 - x1 / (95 : Int32) * (95 : Int32)) _ _ _ (by omega) (by omega) hz_x7 hP hD hS (lv_sub hl [1, 2, 3, 4, 5, 6, 7, 8, 9, 0] rfl) hw
          · have hw := hw.2 cd64
            refine lv_aload_n hx hb dL_follows_560 rfl (lv_at hl 1 rfl) ?_
            refine kb_X5_bestByTable a o63  hw ⟨hx, hb, hml, hown, hts⟩ (cwV 0 hts gL_follows_X5_bestByTable rfl rfl rfl (by decide +kernel) ⟨Nat.le_of_ble_eq_true rfl, Nat.le_of_ble_eq_true rfl⟩) hK hG hP hD hS hA hl.1 (Nat.le_of_ble_eq_true rfl) dL_follows_561 ⟨by show _ ≤ 284; omega, by show _ ≤ 1704; omega⟩ (fun r65 o66 H locs hw hP hD hS => ?_)
            refine lv_iload_n hx hb dL_follows_564 rfl (lv_at hl 4 rfl) ?_
            refine lv_iconst (v := 1) hx hb dL_follows_565 (by decide) ?_
            refine lv_iadd hx hb dL_follows_566 ?_
            refine lv_iload_n hx hb dL_follows_567 rfl (lv_at hl 2 rfl) ?_
            refine lv_bipush (v := 50) hx hb dL_follows_568 (by decide) ?_
            refine lv_irem hx hb dL_follows_570 (by decide) ?_
            refine lv_iadd hx hb dL_follows_571 ?_
            refine lv_icmp_gt (tgt := 630) hx hb dL_follows_572 (by decide) (fun cd67 => ?_) (fun cd67 => ?_)
            · have hw := hw.1 cd67
              exact J630 _ _ o66 x1 x2 x3 x4 x5 x6 x7 x8 (x1 - x1 / (95 : Int32) * (95 : Int32)) _ _ _ (by omega) (by omega) hz_x7 hP hD hS (lv_sub hl [1, 2, 3, 4, 5, 6, 7, 8, 9, 0] rfl) hw
            · have hw := hw.2 cd67
              refine lv_aload_n hx hb dL_follows_575 rfl (lv_at hl 1 rfl) ?_
              refine lv_iload_n hx hb dL_follows_576 rfl (lv_at hl 3 rfl) ?_
              refine kI_l (kr_SW [] ⟨hx, hb, hml, hown, hts⟩ (cb_L_bestWith l hst G a o66 x2 hw H.size) (vx_cwSW 2 hts gL_follows_L_bestWith rfl rfl rfl (by decide +kernel) ⟨Nat.le_of_ble_eq_true rfl, Nat.le_of_ble_eq_true rfl⟩) hK hG hP hD hS hA (List.range 51) nd51 (rg51 G a _) rfl hl.1 rfl (Nat.le_of_ble_eq_true rfl) dL_follows_577 ⟨by show _ ≤ 284; omega, by show _ ≤ 1704; omega⟩) hP hD hS hA (fun r68 o69 H locs hw hP hD hS => ?_)
              refine lv_iload_n hx hb dL_follows_580 rfl (lv_at hl 2 rfl) ?_
              refine lv_bipush (v := 50) hx hb dL_follows_581 (by decide) ?_
              refine lv_irem hx hb dL_follows_583 (by decide) ?_
              refine lv_i2l hx hb dL_follows_584 rfl ?_
              refine W.lcmp hx hb dL_follows_585 ?_
              refine lv_if_le (tgt := 630) hx hb dL_follows_586 (by decide) (fun cd70 => ?_) (fun cd70 => ?_)
              · have hw := hw.1 cd70
                exact J630 _ _ o69 x1 x2 x3 x4 x5 x6 x7 x8 (x1 - x1 / (95 : Int32) * (95 : Int32)) _ _ _ (by omega) (by omega) hz_x7 hP hD hS (lv_sub hl [1, 2, 3, 4, 5, 6, 7, 8, 9, 0] rfl) hw
              · have hw := hw.2 cd70
                refine lv_aload_n hx hb dL_follows_589 rfl (lv_at hl 1 rfl) ?_
                refine lv_iload_n hx hb dL_follows_590 rfl (lv_at hl 3 rfl) ?_
                refine kI_l (kr_SW [] ⟨hx, hb, hml, hown, hts⟩ (cb_L_isBooked l hst G a o69 x2 hw H.size) (vx_cwSW 2 hts gL_follows_L_isBooked rfl rfl rfl (by decide +kernel) ⟨Nat.le_of_ble_eq_true rfl, Nat.le_of_ble_eq_true rfl⟩) hK hG hP hD hS hA (List.range 51) nd51 (rg51 G a _) rfl hl.1 rfl (Nat.le_of_ble_eq_true rfl) dL_follows_591 ⟨by show _ ≤ 284; omega, by show _ ≤ 1704; omega⟩) hP hD hS hA (fun r71 o72 H locs hw hP hD hS => ?_)
                refine lv_lconst (v := 0) hx hb dL_follows_594 (by decide) ?_
                refine W.lcmp hx hb dL_follows_595 ?_
                refine lv_if_ne (tgt := 630) hx hb dL_follows_596 (by decide) (fun cd73 => ?_) (fun cd73 => ?_)
                · have hw := hw.1 cd73
                  exact J630 _ _ o72 x1 x2 x3 x4 x5 x6 x7 x8 (x1 - x1 / (95 : Int32) * (95 : Int32)) _ _ _ (by omega) (by omega) hz_x7 hP hD hS (lv_sub hl [1, 2, 3, 4, 5, 6, 7, 8, 9, 0] rfl) hw
                · have hw := hw.2 cd73
                  refine lv_aload_n hx hb dL_follows_599 rfl (lv_at hl 1 rfl) ?_
                  refine kb_X5_conflictsByPairs a o72  hw ⟨hx, hb, hml, hown, hts⟩ (cwV 0 hts gL_follows_X5_conflictsByPairs rfl rfl rfl (by decide +kernel) ⟨Nat.le_of_ble_eq_true rfl, Nat.le_of_ble_eq_true rfl⟩) hK hG hP hD hS hA hl.1 (Nat.le_of_ble_eq_true rfl) dL_follows_600 ⟨by show _ ≤ 284; omega, by show _ ≤ 1704; omega⟩ (fun r74 o75 H locs hw hP hD hS => ?_)
                  refine lv_i2l hx hb dL_follows_603 rfl ?_
                  refine lv_iload hx hb dL_follows_604 (lv_at hl 6 rfl) ?_
                  refine lv_i2l hx hb dL_follows_606 rfl ?_
                  refine lv_aload_n hx hb dL_follows_607 rfl (lv_at hl 1 rfl) ?_
                  refine lv_iload_n hx hb dL_follows_608 rfl (lv_at hl 3 rfl) ?_
                  refine kI_l (kr_SW [.long x5.toInt64, .long r74.toInt64] ⟨hx, hb, hml, hown, hts⟩ (cb_L_conflictsOf l hst G a o75 x2 hw H.size) (vx_cwSW 2 hts gL_follows_L_conflictsOf rfl rfl rfl (by decide +kernel) ⟨Nat.le_of_ble_eq_true rfl, Nat.le_of_ble_eq_true rfl⟩) hK hG hP hD hS hA (List.range 51) nd51 (rg51 G a _) rfl hl.1 rfl (Nat.le_of_ble_eq_true rfl) dL_follows_609 ⟨by show _ ≤ 284; omega, by show _ ≤ 1704; omega⟩) hP hD hS hA (fun r76 o77 H locs hw hP hD hS => ?_)
                  refine lv_ladd hx hb dL_follows_612 ?_
                  refine W.lcmp hx hb dL_follows_613 ?_
                  refine lv_if_ne (tgt := 630) hx hb dL_follows_614 (by decide) (fun cd78 => ?_) (fun cd78 => ?_)
                  · have hw := hw.1 cd78
                    exact J630 _ _ o77 x1 x2 x3 x4 x5 x6 x7 x8 (x1 - x1 / (95 : Int32) * (95 : Int32)) _ _ _ (by omega) (by omega) hz_x7 hP hD hS (lv_sub hl [1, 2, 3, 4, 5, 6, 7, 8, 9, 0] rfl) hw
                  · have hw := hw.2 cd78
                    refine lv_aload_n hx hb dL_follows_617 rfl (lv_at hl 1 rfl) ?_
                    refine kI_l (kr_SW [] ⟨hx, hb, hml, hown, hts⟩ (cb_L_undo l hst G a o77 hw H.size) (vx_cwSW 1 hts gL_follows_L_undo rfl rfl rfl (by decide +kernel) ⟨Nat.le_of_ble_eq_true rfl, Nat.le_of_ble_eq_true rfl⟩) hK hG hP hD hS hA (List.range 51) nd51 (rg51 G a _) rfl hl.1 rfl (Nat.le_of_ble_eq_true rfl) dL_follows_618 ⟨by show _ ≤ 284; omega, by show _ ≤ 1704; omega⟩) hP hD hS hA (fun r79 o80 H locs hw hP hD hS => ?_)
                    refine lv_lconst (v := 0) hx hb dL_follows_621 (by decide) ?_
                    refine W.lcmp hx hb dL_follows_622 ?_
                    refine lv_if_ne (tgt := 630) hx hb dL_follows_623 (by decide) (fun cd81 => ?_) (fun cd81 => ?_)
                    · have hw := hw.1 cd81
                      exact J630 _ _ o80 x1 x2 x3 x4 x5 x6 x7 x8 (x1 - x1 / (95 : Int32) * (95 : Int32)) _ _ _ (by omega) (by omega) hz_x7 hP hD hS (lv_sub hl [1, 2, 3, 4, 5, 6, 7, 8, 9, 0] rfl) hw
                    · have hw := hw.2 cd81
                      refine lv_iconst (v := 1) hx hb dL_follows_626 (by decide) ?_
                      refine lv_goto (tgt := 631) hx hb dL_follows_627 (by decide) ?_
                      exact J631 _ _ o80 x1 x2 x3 x4 x5 x6 x7 x8 (x1 - x1 / (95 : Int32) * (95 : Int32)) (1 : Int32) _ _ _ (by omega) (by omega) hz_x7 (Or.inr rfl) hP hD hS (lv_sub hl [1, 2, 3, 4, 5, 6, 7, 8, 9, 0] rfl) hw
  have J429 : ∀ (k167 : OB → Int32 → Int32 → Int32 → Int32 → Int32 → Int32 → Int32 → Int32 → Int32 → Prop) (nn167 : Nat) (hk167 : ∀ (k z : Nat) (o : OB) (x1 : Int32) (x2 : Int32) (x3 : Int32) (x4 : Int32) (x5 : Int32) (x6 : Int32) (x7 : Int32) (x8 : Int32) (x9 : Int32) (H : Heap) (locs : List Loc) (ls : Array Slot), k + nn167 ≤ 284 → z + 6 * nn167 ≤ 1704 → (x7 = 0 ∨ x7 = 1) → va_P (gD G) vwCl (wOB G a o) H → va_D A (wOB G a o) → va_S A s.heap H locs → lv_has ls 14 [(0, .ref (a 0)), (1, .int x1), (2, .int x2), (3, .int x3), (4, .int x4), (5, .int x5), (6, .int x6), (7, .int x7), (8, .int x8), (9, .int x9)] → k167 o x1 x2 x3 x4 x5 x6 x7 x8 x9 → W p l e ({ frames := 9, cells := 284, slots := 1704, locals := 158 } : Room) s m ([.ref (a 0), .int a1] : List Value).toArray below meth c H locs k z (MQ below (va_Qi (fun (r : Int32) (u : OB) => (r = 0 ∨ r = 1) ∧ Q r u) (mBk G A (fun (u : OB) => (wOB G a u))) A) ([.ref (a 0), .int a1] : List Value).toArray s 284 1704 A) (F0 m 167 ls [])) (k z : Nat) (o : OB) (x1 : Int32) (x2 : Int32) (x3 : Int32) (x4 : Int32) (x5 : Int32) (x6 : Int32) (x7 : Int32) (x8 : Int32) (x9 : Int32) (x10 : Int32) (x11 : Int32) (x12 : Int32) (x13 : Int32) (y0 : Int32) (H : Heap) (locs : List Loc) (ls : Array Slot), k + (5 + nn167) ≤ 284 → z + 6 * (5 + nn167) ≤ 1704 → (x7 = 0 ∨ x7 = 1) → (x13 = 0 ∨ x13 = 1) → (y0 = 0 ∨ y0 = 1) → va_P (gD G) vwCl (wOB G a o) H → va_D A (wOB G a o) → va_S A s.heap H locs → lv_has ls 14 [(0, .ref (a 0)), (1, .int x1), (2, .int x2), (3, .int x3), (4, .int x4), (5, .int x5), (6, .int x6), (7, .int x7), (8, .int x8), (9, .int x9), (10, .int x10), (11, .int x11), (12, .int x12), (13, .int x13)] → wj_b_L_follows_429 Q k167 o x1 x2 x3 x4 x5 x6 x7 x8 x9 x10 x11 x12 x13 y0 → W p l e ({ frames := 9, cells := 284, slots := 1704, locals := 158 } : Room) s m ([.ref (a 0), .int a1] : List Value).toArray below meth c H locs k z (MQ below (va_Qi (fun (r : Int32) (u : OB) => (r = 0 ∨ r = 1) ∧ Q r u) (mBk G A (fun (u : OB) => (wOB G a u))) A) ([.ref (a 0), .int a1] : List Value).toArray s 284 1704 A) (F0 m 429 ls [.int y0]) := by
    intro k167 nn167 hk167 k z o x1 x2 x3 x4 x5 x6 x7 x8 x9 x10 x11 x12 x13 y0 H locs ls hbk hbz hz_x7 hz_x13 hz_y0 hP hD hS hl hw
    unfold wj_b_L_follows_429 at hw
    refine lv_istore (lv' := [(7, .int y0), (0, .ref (a 0)), (1, .int x1), (2, .int x2), (3, .int x3), (4, .int x4), (5, .int x5), (6, .int x6), (8, .int x8), (9, .int x9), (10, .int x10), (11, .int x11), (12, .int x12), (13, .int x13)]) hx hb dL_follows_429 hl (by decide) rfl (fun ls hl => ?_)
    refine lv_iload hx hb dL_follows_431 (lv_at hl 0 rfl) ?_
    refine lv_if_eq (tgt := 504) hx hb dL_follows_433 (by decide) (fun cd97 => ?_) (fun cd97 => ?_)
    · have hw := hw.1 cd97
      refine lv_iconst (v := 0) hx hb dL_follows_504 (by decide) ?_
      refine lv_istore (lv' := [(7, .int (0 : Int32)), (0, .ref (a 0)), (1, .int x1), (2, .int x2), (3, .int x3), (4, .int x4), (5, .int x5), (6, .int x6), (8, .int x8), (9, .int x9), (10, .int x10), (11, .int x11), (12, .int x12), (13, .int x13)]) hx hb dL_follows_505 hl (by decide) rfl (fun ls hl => ?_)
      refine lv_iinc (v := (x9 + 1)) (lv' := [(9, .int (x9 + 1)), (7, .int (0 : Int32)), (0, .ref (a 0)), (1, .int x1), (2, .int x2), (3, .int x3), (4, .int x4), (5, .int x5), (6, .int x6), (8, .int x8), (10, .int x10), (11, .int x11), (12, .int x12), (13, .int x13)]) hx hb dL_follows_507 hl (k := 9) rfl rfl (by decide) rfl (fun ls hl => ?_)
      refine lv_goto (tgt := 167) hx hb dL_follows_510 (by decide) ?_
      exact hk167 _ _ o x1 x2 x3 x4 x5 x6 (0 : Int32) x8 (x9 + 1) _ _ _ (by omega) (by omega) (Or.inl rfl) hP hD hS (lv_sub hl [2, 3, 4, 5, 6, 7, 8, 1, 9, 0] rfl) hw
    · have hw := hw.2 cd97
      refine lv_aload_n hx hb dL_follows_436 rfl (lv_at hl 1 rfl) ?_
      refine lv_iload hx hb dL_follows_437 (lv_at hl 9 rfl) ?_
      refine lv_bipush (v := 50) hx hb dL_follows_439 (by decide) ?_
      refine kI_l (kr_SW [] ⟨hx, hb, hml, hown, hts⟩ (cb_L_changeFame l hst G a o x9 (50 : Int32) hw H.size) (vx_cwSW 3 hts gL_follows_L_changeFame rfl rfl rfl (by decide +kernel) ⟨Nat.le_of_ble_eq_true rfl, Nat.le_of_ble_eq_true rfl⟩) hK hG hP hD hS hA (List.range 51) nd51 (rg51 G a _) rfl hl.1 rfl (Nat.le_of_ble_eq_true rfl) dL_follows_441 ⟨by show _ ≤ 284; omega, by show _ ≤ 1704; omega⟩) hP hD hS hA (fun r98 o99 H locs hw hP hD hS => ?_)
      refine lv_iload hx hb dL_follows_444 (lv_at hl 10 rfl) ?_
      refine lv_i2l hx hb dL_follows_446 rfl ?_
      refine W.lcmp hx hb dL_follows_447 ?_
      refine lv_if_ne (tgt := 504) hx hb dL_follows_448 (by decide) (fun cd100 => ?_) (fun cd100 => ?_)
      · have hw := hw.1 cd100
        refine lv_iconst (v := 0) hx hb dL_follows_504 (by decide) ?_
        refine lv_istore (lv' := [(7, .int (0 : Int32)), (0, .ref (a 0)), (1, .int x1), (2, .int x2), (3, .int x3), (4, .int x4), (5, .int x5), (6, .int x6), (8, .int x8), (9, .int x9), (10, .int x10), (11, .int x11), (12, .int x12), (13, .int x13)]) hx hb dL_follows_505 hl (by decide) rfl (fun ls hl => ?_)
        refine lv_iinc (v := (x9 + 1)) (lv' := [(9, .int (x9 + 1)), (7, .int (0 : Int32)), (0, .ref (a 0)), (1, .int x1), (2, .int x2), (3, .int x3), (4, .int x4), (5, .int x5), (6, .int x6), (8, .int x8), (10, .int x10), (11, .int x11), (12, .int x12), (13, .int x13)]) hx hb dL_follows_507 hl (k := 9) rfl rfl (by decide) rfl (fun ls hl => ?_)
        refine lv_goto (tgt := 167) hx hb dL_follows_510 (by decide) ?_
        exact hk167 _ _ o99 x1 x2 x3 x4 x5 x6 (0 : Int32) x8 (x9 + 1) _ _ _ (by omega) (by omega) (Or.inl rfl) hP hD hS (lv_sub hl [2, 3, 4, 5, 6, 7, 8, 1, 9, 0] rfl) hw
      · have hw := hw.2 cd100
        refine lv_aload_n hx hb dL_follows_451 rfl (lv_at hl 1 rfl) ?_
        refine lv_iload hx hb dL_follows_452 (lv_at hl 9 rfl) ?_
        refine kI_l (kr_SW [] ⟨hx, hb, hml, hown, hts⟩ (cb_L_bestWith l hst G a o99 x9 hw H.size) (vx_cwSW 2 hts gL_follows_L_bestWith rfl rfl rfl (by decide +kernel) ⟨Nat.le_of_ble_eq_true rfl, Nat.le_of_ble_eq_true rfl⟩) hK hG hP hD hS hA (List.range 51) nd51 (rg51 G a _) rfl hl.1 rfl (Nat.le_of_ble_eq_true rfl) dL_follows_454 ⟨by show _ ≤ 284; omega, by show _ ≤ 1704; omega⟩) hP hD hS hA (fun r101 o102 H locs hw hP hD hS => ?_)
        refine lv_iload hx hb dL_follows_457 (lv_at hl 12 rfl) ?_
        refine lv_bipush (v := 50) hx hb dL_follows_459 (by decide) ?_
        refine lv_iadd hx hb dL_follows_461 ?_
        refine lv_iload hx hb dL_follows_462 (lv_at hl 10 rfl) ?_
        refine lv_isub hx hb dL_follows_464 ?_
        refine lv_i2l hx hb dL_follows_465 rfl ?_
        refine W.lcmp hx hb dL_follows_466 ?_
        refine lv_if_ne (tgt := 504) hx hb dL_follows_467 (by decide) (fun cd103 => ?_) (fun cd103 => ?_)
        · have hw := hw.1 cd103
          refine lv_iconst (v := 0) hx hb dL_follows_504 (by decide) ?_
          refine lv_istore (lv' := [(7, .int (0 : Int32)), (0, .ref (a 0)), (1, .int x1), (2, .int x2), (3, .int x3), (4, .int x4), (5, .int x5), (6, .int x6), (8, .int x8), (9, .int x9), (10, .int x10), (11, .int x11), (12, .int x12), (13, .int x13)]) hx hb dL_follows_505 hl (by decide) rfl (fun ls hl => ?_)
          refine lv_iinc (v := (x9 + 1)) (lv' := [(9, .int (x9 + 1)), (7, .int (0 : Int32)), (0, .ref (a 0)), (1, .int x1), (2, .int x2), (3, .int x3), (4, .int x4), (5, .int x5), (6, .int x6), (8, .int x8), (10, .int x10), (11, .int x11), (12, .int x12), (13, .int x13)]) hx hb dL_follows_507 hl (k := 9) rfl rfl (by decide) rfl (fun ls hl => ?_)
          refine lv_goto (tgt := 167) hx hb dL_follows_510 (by decide) ?_
          exact hk167 _ _ o102 x1 x2 x3 x4 x5 x6 (0 : Int32) x8 (x9 + 1) _ _ _ (by omega) (by omega) (Or.inl rfl) hP hD hS (lv_sub hl [2, 3, 4, 5, 6, 7, 8, 1, 9, 0] rfl) hw
        · have hw := hw.2 cd103
          refine lv_aload_n hx hb dL_follows_470 rfl (lv_at hl 1 rfl) ?_
          refine kb_X5_bestByTable a o102  hw ⟨hx, hb, hml, hown, hts⟩ (cwV 0 hts gL_follows_X5_bestByTable rfl rfl rfl (by decide +kernel) ⟨Nat.le_of_ble_eq_true rfl, Nat.le_of_ble_eq_true rfl⟩) hK hG hP hD hS hA hl.1 (Nat.le_of_ble_eq_true rfl) dL_follows_471 ⟨by show _ ≤ 284; omega, by show _ ≤ 1704; omega⟩ (fun r104 o105 H locs hw hP hD hS => ?_)
          refine lv_iload_n hx hb dL_follows_474 rfl (lv_at hl 4 rfl) ?_
          refine lv_icmp_lt (tgt := 504) hx hb dL_follows_475 (by decide) (fun cd106 => ?_) (fun cd106 => ?_)
          · have hw := hw.1 cd106
            refine lv_iconst (v := 0) hx hb dL_follows_504 (by decide) ?_
            refine lv_istore (lv' := [(7, .int (0 : Int32)), (0, .ref (a 0)), (1, .int x1), (2, .int x2), (3, .int x3), (4, .int x4), (5, .int x5), (6, .int x6), (8, .int x8), (9, .int x9), (10, .int x10), (11, .int x11), (12, .int x12), (13, .int x13)]) hx hb dL_follows_505 hl (by decide) rfl (fun ls hl => ?_)
            refine lv_iinc (v := (x9 + 1)) (lv' := [(9, .int (x9 + 1)), (7, .int (0 : Int32)), (0, .ref (a 0)), (1, .int x1), (2, .int x2), (3, .int x3), (4, .int x4), (5, .int x5), (6, .int x6), (8, .int x8), (10, .int x10), (11, .int x11), (12, .int x12), (13, .int x13)]) hx hb dL_follows_507 hl (k := 9) rfl rfl (by decide) rfl (fun ls hl => ?_)
            refine lv_goto (tgt := 167) hx hb dL_follows_510 (by decide) ?_
            exact hk167 _ _ o105 x1 x2 x3 x4 x5 x6 (0 : Int32) x8 (x9 + 1) _ _ _ (by omega) (by omega) (Or.inl rfl) hP hD hS (lv_sub hl [2, 3, 4, 5, 6, 7, 8, 1, 9, 0] rfl) hw
          · have hw := hw.2 cd106
            refine lv_aload_n hx hb dL_follows_478 rfl (lv_at hl 1 rfl) ?_
            refine kI_l (kr_SW [] ⟨hx, hb, hml, hown, hts⟩ (cb_L_undo l hst G a o105 hw H.size) (vx_cwSW 1 hts gL_follows_L_undo rfl rfl rfl (by decide +kernel) ⟨Nat.le_of_ble_eq_true rfl, Nat.le_of_ble_eq_true rfl⟩) hK hG hP hD hS hA (List.range 51) nd51 (rg51 G a _) rfl hl.1 rfl (Nat.le_of_ble_eq_true rfl) dL_follows_479 ⟨by show _ ≤ 284; omega, by show _ ≤ 1704; omega⟩) hP hD hS hA (fun r107 o108 H locs hw hP hD hS => ?_)
            refine lv_lconst (v := 0) hx hb dL_follows_482 (by decide) ?_
            refine W.lcmp hx hb dL_follows_483 ?_
            refine lv_if_ne (tgt := 504) hx hb dL_follows_484 (by decide) (fun cd109 => ?_) (fun cd109 => ?_)
            · have hw := hw.1 cd109
              refine lv_iconst (v := 0) hx hb dL_follows_504 (by decide) ?_
              refine lv_istore (lv' := [(7, .int (0 : Int32)), (0, .ref (a 0)), (1, .int x1), (2, .int x2), (3, .int x3), (4, .int x4), (5, .int x5), (6, .int x6), (8, .int x8), (9, .int x9), (10, .int x10), (11, .int x11), (12, .int x12), (13, .int x13)]) hx hb dL_follows_505 hl (by decide) rfl (fun ls hl => ?_)
              refine lv_iinc (v := (x9 + 1)) (lv' := [(9, .int (x9 + 1)), (7, .int (0 : Int32)), (0, .ref (a 0)), (1, .int x1), (2, .int x2), (3, .int x3), (4, .int x4), (5, .int x5), (6, .int x6), (8, .int x8), (10, .int x10), (11, .int x11), (12, .int x12), (13, .int x13)]) hx hb dL_follows_507 hl (k := 9) rfl rfl (by decide) rfl (fun ls hl => ?_)
              refine lv_goto (tgt := 167) hx hb dL_follows_510 (by decide) ?_
              exact hk167 _ _ o108 x1 x2 x3 x4 x5 x6 (0 : Int32) x8 (x9 + 1) _ _ _ (by omega) (by omega) (Or.inl rfl) hP hD hS (lv_sub hl [2, 3, 4, 5, 6, 7, 8, 1, 9, 0] rfl) hw
            · have hw := hw.2 cd109
              refine lv_aload_n hx hb dL_follows_487 rfl (lv_at hl 1 rfl) ?_
              refine lv_iload hx hb dL_follows_488 (lv_at hl 9 rfl) ?_
              refine kI_l (kr_SW [] ⟨hx, hb, hml, hown, hts⟩ (cb_L_fameOf l hst G a o108 x9 hw H.size) (vx_cwSW 2 hts gL_follows_L_fameOf rfl rfl rfl (by decide +kernel) ⟨Nat.le_of_ble_eq_true rfl, Nat.le_of_ble_eq_true rfl⟩) hK hG hP hD hS hA (List.range 51) nd51 (rg51 G a _) rfl hl.1 rfl (Nat.le_of_ble_eq_true rfl) dL_follows_490 ⟨by show _ ≤ 284; omega, by show _ ≤ 1704; omega⟩) hP hD hS hA (fun r110 o111 H locs hw hP hD hS => ?_)
              refine lv_iload hx hb dL_follows_493 (lv_at hl 10 rfl) ?_
              refine lv_i2l hx hb dL_follows_495 rfl ?_
              refine W.lcmp hx hb dL_follows_496 ?_
              refine lv_if_ne (tgt := 504) hx hb dL_follows_497 (by decide) (fun cd112 => ?_) (fun cd112 => ?_)
              · have hw := hw.1 cd112
                refine lv_iconst (v := 0) hx hb dL_follows_504 (by decide) ?_
                refine lv_istore (lv' := [(7, .int (0 : Int32)), (0, .ref (a 0)), (1, .int x1), (2, .int x2), (3, .int x3), (4, .int x4), (5, .int x5), (6, .int x6), (8, .int x8), (9, .int x9), (10, .int x10), (11, .int x11), (12, .int x12), (13, .int x13)]) hx hb dL_follows_505 hl (by decide) rfl (fun ls hl => ?_)
                refine lv_iinc (v := (x9 + 1)) (lv' := [(9, .int (x9 + 1)), (7, .int (0 : Int32)), (0, .ref (a 0)), (1, .int x1), (2, .int x2), (3, .int x3), (4, .int x4), (5, .int x5), (6, .int x6), (8, .int x8), (10, .int x10), (11, .int x11), (12, .int x12), (13, .int x13)]) hx hb dL_follows_507 hl (k := 9) rfl rfl (by decide) rfl (fun ls hl => ?_)
                refine lv_goto (tgt := 167) hx hb dL_follows_510 (by decide) ?_
                exact hk167 _ _ o111 x1 x2 x3 x4 x5 x6 (0 : Int32) x8 (x9 + 1) _ _ _ (by omega) (by omega) (Or.inl rfl) hP hD hS (lv_sub hl [2, 3, 4, 5, 6, 7, 8, 1, 9, 0] rfl) hw
              · have hw := hw.2 cd112
                refine lv_iconst (v := 1) hx hb dL_follows_500 (by decide) ?_
                refine lv_goto (tgt := 505) hx hb dL_follows_501 (by decide) ?_
                refine lv_istore (lv' := [(7, .int (1 : Int32)), (0, .ref (a 0)), (1, .int x1), (2, .int x2), (3, .int x3), (4, .int x4), (5, .int x5), (6, .int x6), (8, .int x8), (9, .int x9), (10, .int x10), (11, .int x11), (12, .int x12), (13, .int x13)]) hx hb dL_follows_505 hl (by decide) rfl (fun ls hl => ?_)
                refine lv_iinc (v := (x9 + 1)) (lv' := [(9, .int (x9 + 1)), (7, .int (1 : Int32)), (0, .ref (a 0)), (1, .int x1), (2, .int x2), (3, .int x3), (4, .int x4), (5, .int x5), (6, .int x6), (8, .int x8), (10, .int x10), (11, .int x11), (12, .int x12), (13, .int x13)]) hx hb dL_follows_507 hl (k := 9) rfl rfl (by decide) rfl (fun ls hl => ?_)
                refine lv_goto (tgt := 167) hx hb dL_follows_510 (by decide) ?_
                exact hk167 _ _ o111 x1 x2 x3 x4 x5 x6 (1 : Int32) x8 (x9 + 1) _ _ _ (by omega) (by omega) (Or.inr rfl) hP hD hS (lv_sub hl [2, 3, 4, 5, 6, 7, 8, 1, 9, 0] rfl) hw
  have J428 : ∀ (k167 : OB → Int32 → Int32 → Int32 → Int32 → Int32 → Int32 → Int32 → Int32 → Int32 → Prop) (nn167 : Nat) (hk167 : ∀ (k z : Nat) (o : OB) (x1 : Int32) (x2 : Int32) (x3 : Int32) (x4 : Int32) (x5 : Int32) (x6 : Int32) (x7 : Int32) (x8 : Int32) (x9 : Int32) (H : Heap) (locs : List Loc) (ls : Array Slot), k + nn167 ≤ 284 → z + 6 * nn167 ≤ 1704 → (x7 = 0 ∨ x7 = 1) → va_P (gD G) vwCl (wOB G a o) H → va_D A (wOB G a o) → va_S A s.heap H locs → lv_has ls 14 [(0, .ref (a 0)), (1, .int x1), (2, .int x2), (3, .int x3), (4, .int x4), (5, .int x5), (6, .int x6), (7, .int x7), (8, .int x8), (9, .int x9)] → k167 o x1 x2 x3 x4 x5 x6 x7 x8 x9 → W p l e ({ frames := 9, cells := 284, slots := 1704, locals := 158 } : Room) s m ([.ref (a 0), .int a1] : List Value).toArray below meth c H locs k z (MQ below (va_Qi (fun (r : Int32) (u : OB) => (r = 0 ∨ r = 1) ∧ Q r u) (mBk G A (fun (u : OB) => (wOB G a u))) A) ([.ref (a 0), .int a1] : List Value).toArray s 284 1704 A) (F0 m 167 ls [])) (k z : Nat) (o : OB) (x1 : Int32) (x2 : Int32) (x3 : Int32) (x4 : Int32) (x5 : Int32) (x6 : Int32) (x7 : Int32) (x8 : Int32) (x9 : Int32) (x10 : Int32) (x11 : Int32) (x12 : Int32) (x13 : Int32) (H : Heap) (locs : List Loc) (ls : Array Slot), k + (5 + nn167) ≤ 284 → z + 6 * (5 + nn167) ≤ 1704 → (x7 = 0 ∨ x7 = 1) → (x13 = 0 ∨ x13 = 1) → va_P (gD G) vwCl (wOB G a o) H → va_D A (wOB G a o) → va_S A s.heap H locs → lv_has ls 14 [(0, .ref (a 0)), (1, .int x1), (2, .int x2), (3, .int x3), (4, .int x4), (5, .int x5), (6, .int x6), (7, .int x7), (8, .int x8), (9, .int x9), (10, .int x10), (11, .int x11), (12, .int x12), (13, .int x13)] → wj_b_L_follows_428 Q k167 o x1 x2 x3 x4 x5 x6 x7 x8 x9 x10 x11 x12 x13 → W p l e ({ frames := 9, cells := 284, slots := 1704, locals := 158 } : Room) s m ([.ref (a 0), .int a1] : List Value).toArray below meth c H locs k z (MQ below (va_Qi (fun (r : Int32) (u : OB) => (r = 0 ∨ r = 1) ∧ Q r u) (mBk G A (fun (u : OB) => (wOB G a u))) A) ([.ref (a 0), .int a1] : List Value).toArray s 284 1704 A) (F0 m 428 ls []) := by
    intro k167 nn167 hk167 k z o x1 x2 x3 x4 x5 x6 x7 x8 x9 x10 x11 x12 x13 H locs ls hbk hbz hz_x7 hz_x13 hP hD hS hl hw
    unfold wj_b_L_follows_428 at hw
    refine lv_iconst (v := 0) hx hb dL_follows_428 (by decide) ?_
    exact J429 k167 nn167 hk167 _ _ o x1 x2 x3 x4 x5 x6 x7 x8 x9 x10 x11 x12 x13 (0 : Int32) _ _ _ (by omega) (by omega) hz_x7 hz_x13 (Or.inl rfl) hP hD hS hl hw
  have J404 : ∀ (k167 : OB → Int32 → Int32 → Int32 → Int32 → Int32 → Int32 → Int32 → Int32 → Int32 → Prop) (nn167 : Nat) (hk167 : ∀ (k z : Nat) (o : OB) (x1 : Int32) (x2 : Int32) (x3 : Int32) (x4 : Int32) (x5 : Int32) (x6 : Int32) (x7 : Int32) (x8 : Int32) (x9 : Int32) (H : Heap) (locs : List Loc) (ls : Array Slot), k + nn167 ≤ 284 → z + 6 * nn167 ≤ 1704 → (x7 = 0 ∨ x7 = 1) → va_P (gD G) vwCl (wOB G a o) H → va_D A (wOB G a o) → va_S A s.heap H locs → lv_has ls 14 [(0, .ref (a 0)), (1, .int x1), (2, .int x2), (3, .int x3), (4, .int x4), (5, .int x5), (6, .int x6), (7, .int x7), (8, .int x8), (9, .int x9)] → k167 o x1 x2 x3 x4 x5 x6 x7 x8 x9 → W p l e ({ frames := 9, cells := 284, slots := 1704, locals := 158 } : Room) s m ([.ref (a 0), .int a1] : List Value).toArray below meth c H locs k z (MQ below (va_Qi (fun (r : Int32) (u : OB) => (r = 0 ∨ r = 1) ∧ Q r u) (mBk G A (fun (u : OB) => (wOB G a u))) A) ([.ref (a 0), .int a1] : List Value).toArray s 284 1704 A) (F0 m 167 ls [])) (k z : Nat) (o : OB) (x1 : Int32) (x2 : Int32) (x3 : Int32) (x4 : Int32) (x5 : Int32) (x6 : Int32) (x7 : Int32) (x8 : Int32) (x9 : Int32) (x10 : Int32) (x11 : Int32) (x12 : Int32) (x13 : Int32) (y0 : Int32) (y1 : Int32) (H : Heap) (locs : List Loc) (ls : Array Slot), k + (6 + nn167) ≤ 284 → z + 6 * (6 + nn167) ≤ 1704 → (x7 = 0 ∨ x7 = 1) → (x13 = 0 ∨ x13 = 1) → va_P (gD G) vwCl (wOB G a o) H → va_D A (wOB G a o) → va_S A s.heap H locs → lv_has ls 14 [(0, .ref (a 0)), (1, .int x1), (2, .int x2), (3, .int x3), (4, .int x4), (5, .int x5), (6, .int x6), (7, .int x7), (8, .int x8), (9, .int x9), (10, .int x10), (11, .int x11), (12, .int x12), (13, .int x13)] → wj_b_L_follows_404 Q k167 o x1 x2 x3 x4 x5 x6 x7 x8 x9 x10 x11 x12 x13 y0 y1 → W p l e ({ frames := 9, cells := 284, slots := 1704, locals := 158 } : Room) s m ([.ref (a 0), .int a1] : List Value).toArray below meth c H locs k z (MQ below (va_Qi (fun (r : Int32) (u : OB) => (r = 0 ∨ r = 1) ∧ Q r u) (mBk G A (fun (u : OB) => (wOB G a u))) A) ([.ref (a 0), .int a1] : List Value).toArray s 284 1704 A) (F0 m 404 ls [.int y1, .int y0]) := by
    intro k167 nn167 hk167 k z o x1 x2 x3 x4 x5 x6 x7 x8 x9 x10 x11 x12 x13 y0 y1 H locs ls hbk hbz hz_x7 hz_x13 hP hD hS hl hw
    unfold wj_b_L_follows_404 at hw
    refine lv_icmp_ne (tgt := 428) hx hb dL_follows_404 (by decide) (fun cd132 => ?_) (fun cd132 => ?_)
    · have hw := hw.1 cd132
      exact J428 k167 nn167 hk167 _ _ o x1 x2 x3 x4 x5 x6 x7 x8 x9 x10 x11 x12 x13 _ _ _ (by omega) (by omega) hz_x7 hz_x13 hP hD hS hl hw
    · have hw := hw.2 cd132
      refine lv_aload_n hx hb dL_follows_407 rfl (lv_at hl 0 rfl) ?_
      refine kI_l (kr_SW [] ⟨hx, hb, hml, hown, hts⟩ (cb_L_undo l hst G a o hw H.size) (vx_cwSW 1 hts gL_follows_L_undo rfl rfl rfl (by decide +kernel) ⟨Nat.le_of_ble_eq_true rfl, Nat.le_of_ble_eq_true rfl⟩) hK hG hP hD hS hA (List.range 51) nd51 (rg51 G a _) rfl hl.1 rfl (Nat.le_of_ble_eq_true rfl) dL_follows_408 ⟨by show _ ≤ 284; omega, by show _ ≤ 1704; omega⟩) hP hD hS hA (fun r133 o134 H locs hw hP hD hS => ?_)
      refine lv_lconst (v := 0) hx hb dL_follows_411 (by decide) ?_
      refine W.lcmp hx hb dL_follows_412 ?_
      refine lv_if_ne (tgt := 428) hx hb dL_follows_413 (by decide) (fun cd135 => ?_) (fun cd135 => ?_)
      · have hw := hw.1 cd135
        exact J428 k167 nn167 hk167 _ _ o134 x1 x2 x3 x4 x5 x6 x7 x8 x9 x10 x11 x12 x13 _ _ _ (by omega) (by omega) hz_x7 hz_x13 hP hD hS hl hw
      · have hw := hw.2 cd135
        refine lv_aload_n hx hb dL_follows_416 rfl (lv_at hl 0 rfl) ?_
        refine kb_X5_rehearsals a o134  hw ⟨hx, hb, hml, hown, hts⟩ (cwV 0 hts gL_follows_X5_rehearsals rfl rfl rfl (by decide +kernel) ⟨Nat.le_of_ble_eq_true rfl, Nat.le_of_ble_eq_true rfl⟩) hK hG hP hD hS hA hl.1 (Nat.le_of_ble_eq_true rfl) dL_follows_417 ⟨by show _ ≤ 284; omega, by show _ ≤ 1704; omega⟩ (fun r136 o137 H locs hw hP hD hS => ?_)
        refine lv_iload_n hx hb dL_follows_420 rfl (lv_at hl 2 rfl) ?_
        refine lv_icmp_ne (tgt := 428) hx hb dL_follows_421 (by decide) (fun cd138 => ?_) (fun cd138 => ?_)
        · have hw := hw.1 cd138
          exact J428 k167 nn167 hk167 _ _ o137 x1 x2 x3 x4 x5 x6 x7 x8 x9 x10 x11 x12 x13 _ _ _ (by omega) (by omega) hz_x7 hz_x13 hP hD hS hl hw
        · have hw := hw.2 cd138
          refine lv_iconst (v := 1) hx hb dL_follows_424 (by decide) ?_
          refine lv_goto (tgt := 429) hx hb dL_follows_425 (by decide) ?_
          exact J429 k167 nn167 hk167 _ _ o137 x1 x2 x3 x4 x5 x6 x7 x8 x9 x10 x11 x12 x13 (1 : Int32) _ _ _ (by omega) (by omega) hz_x7 hz_x13 (Or.inr rfl) hP hD hS hl hw
  have J385 : ∀ (k167 : OB → Int32 → Int32 → Int32 → Int32 → Int32 → Int32 → Int32 → Int32 → Int32 → Prop) (nn167 : Nat) (hk167 : ∀ (k z : Nat) (o : OB) (x1 : Int32) (x2 : Int32) (x3 : Int32) (x4 : Int32) (x5 : Int32) (x6 : Int32) (x7 : Int32) (x8 : Int32) (x9 : Int32) (H : Heap) (locs : List Loc) (ls : Array Slot), k + nn167 ≤ 284 → z + 6 * nn167 ≤ 1704 → (x7 = 0 ∨ x7 = 1) → va_P (gD G) vwCl (wOB G a o) H → va_D A (wOB G a o) → va_S A s.heap H locs → lv_has ls 14 [(0, .ref (a 0)), (1, .int x1), (2, .int x2), (3, .int x3), (4, .int x4), (5, .int x5), (6, .int x6), (7, .int x7), (8, .int x8), (9, .int x9)] → k167 o x1 x2 x3 x4 x5 x6 x7 x8 x9 → W p l e ({ frames := 9, cells := 284, slots := 1704, locals := 158 } : Room) s m ([.ref (a 0), .int a1] : List Value).toArray below meth c H locs k z (MQ below (va_Qi (fun (r : Int32) (u : OB) => (r = 0 ∨ r = 1) ∧ Q r u) (mBk G A (fun (u : OB) => (wOB G a u))) A) ([.ref (a 0), .int a1] : List Value).toArray s 284 1704 A) (F0 m 167 ls [])) (k z : Nat) (o : OB) (x1 : Int32) (x2 : Int32) (x3 : Int32) (x4 : Int32) (x5 : Int32) (x6 : Int32) (x7 : Int32) (x8 : Int32) (x9 : Int32) (x10 : Int32) (x11 : Int32) (x12 : Int32) (x13 : Int32) (H : Heap) (locs : List Loc) (ls : Array Slot), k + (6 + nn167) ≤ 284 → z + 6 * (6 + nn167) ≤ 1704 → (x7 = 0 ∨ x7 = 1) → (x13 = 0 ∨ x13 = 1) → va_P (gD G) vwCl (wOB G a o) H → va_D A (wOB G a o) → va_S A s.heap H locs → lv_has ls 14 [(0, .ref (a 0)), (1, .int x1), (2, .int x2), (3, .int x3), (4, .int x4), (5, .int x5), (6, .int x6), (7, .int x7), (8, .int x8), (9, .int x9), (10, .int x10), (11, .int x11), (12, .int x12), (13, .int x13)] → wj_b_L_follows_385 Q k167 o x1 x2 x3 x4 x5 x6 x7 x8 x9 x10 x11 x12 x13 → W p l e ({ frames := 9, cells := 284, slots := 1704, locals := 158 } : Room) s m ([.ref (a 0), .int a1] : List Value).toArray below meth c H locs k z (MQ below (va_Qi (fun (r : Int32) (u : OB) => (r = 0 ∨ r = 1) ∧ Q r u) (mBk G A (fun (u : OB) => (wOB G a u))) A) ([.ref (a 0), .int a1] : List Value).toArray s 284 1704 A) (F0 m 385 ls []) := by
    intro k167 nn167 hk167 k z o x1 x2 x3 x4 x5 x6 x7 x8 x9 x10 x11 x12 x13 H locs ls hbk hbz hz_x7 hz_x13 hP hD hS hl hw
    unfold wj_b_L_follows_385 at hw
    refine lv_aload_n hx hb dL_follows_385 rfl (lv_at hl 0 rfl) ?_
    refine kb_X5_bookedFame a o  hw ⟨hx, hb, hml, hown, hts⟩ (cwV 0 hts gL_follows_X5_bookedFame rfl rfl rfl (by decide +kernel) ⟨Nat.le_of_ble_eq_true rfl, Nat.le_of_ble_eq_true rfl⟩) hK hG hP hD hS hA hl.1 (Nat.le_of_ble_eq_true rfl) dL_follows_386 ⟨by show _ ≤ 284; omega, by show _ ≤ 1704; omega⟩ (fun r129 o130 H locs hw hP hD hS => ?_)
    refine lv_iload hx hb dL_follows_389 (lv_at hl 13 rfl) ?_
    refine lv_if_eq (tgt := 402) hx hb dL_follows_391 (by decide) (fun cd131 => ?_) (fun cd131 => ?_)
    · have hw := hw.1 cd131
      refine lv_iload hx hb dL_follows_402 (lv_at hl 4 rfl) ?_
      exact J404 k167 nn167 hk167 _ _ o130 x1 x2 x3 x4 x5 x6 x7 x8 x9 x10 x11 x12 x13 r129 x4 _ _ _ (by omega) (by omega) hz_x7 hz_x13 hP hD hS hl hw
    · have hw := hw.2 cd131
      refine lv_iload hx hb dL_follows_394 (lv_at hl 4 rfl) ?_
      refine lv_iload hx hb dL_follows_396 (lv_at hl 10 rfl) ?_
      refine lv_isub hx hb dL_follows_398 ?_
      refine lv_goto (tgt := 404) hx hb dL_follows_399 (by decide) ?_
      exact J404 k167 nn167 hk167 _ _ o130 x1 x2 x3 x4 x5 x6 x7 x8 x9 x10 x11 x12 x13 r129 (x4 - x10) _ _ _ (by omega) (by omega) hz_x7 hz_x13 hP hD hS hl hw
  have J305 : ∀ (k167 : OB → Int32 → Int32 → Int32 → Int32 → Int32 → Int32 → Int32 → Int32 → Int32 → Prop) (nn167 : Nat) (hk167 : ∀ (k z : Nat) (o : OB) (x1 : Int32) (x2 : Int32) (x3 : Int32) (x4 : Int32) (x5 : Int32) (x6 : Int32) (x7 : Int32) (x8 : Int32) (x9 : Int32) (H : Heap) (locs : List Loc) (ls : Array Slot), k + nn167 ≤ 284 → z + 6 * nn167 ≤ 1704 → (x7 = 0 ∨ x7 = 1) → va_P (gD G) vwCl (wOB G a o) H → va_D A (wOB G a o) → va_S A s.heap H locs → lv_has ls 14 [(0, .ref (a 0)), (1, .int x1), (2, .int x2), (3, .int x3), (4, .int x4), (5, .int x5), (6, .int x6), (7, .int x7), (8, .int x8), (9, .int x9)] → k167 o x1 x2 x3 x4 x5 x6 x7 x8 x9 → W p l e ({ frames := 9, cells := 284, slots := 1704, locals := 158 } : Room) s m ([.ref (a 0), .int a1] : List Value).toArray below meth c H locs k z (MQ below (va_Qi (fun (r : Int32) (u : OB) => (r = 0 ∨ r = 1) ∧ Q r u) (mBk G A (fun (u : OB) => (wOB G a u))) A) ([.ref (a 0), .int a1] : List Value).toArray s 284 1704 A) (F0 m 167 ls [])) (k z : Nat) (o : OB) (x1 : Int32) (x2 : Int32) (x3 : Int32) (x4 : Int32) (x5 : Int32) (x6 : Int32) (x7 : Int32) (x8 : Int32) (x9 : Int32) (x10 : Int32) (x11 : Int32) (x12 : Int32) (x13 : Int32) (y0 : Int32) (H : Heap) (locs : List Loc) (ls : Array Slot), k + (7 + nn167) ≤ 284 → z + 6 * (7 + nn167) ≤ 1704 → (x7 = 0 ∨ x7 = 1) → (x13 = 0 ∨ x13 = 1) → (y0 = 0 ∨ y0 = 1) → va_P (gD G) vwCl (wOB G a o) H → va_D A (wOB G a o) → va_S A s.heap H locs → lv_has ls 14 [(0, .ref (a 0)), (1, .int x1), (2, .int x2), (3, .int x3), (4, .int x4), (5, .int x5), (6, .int x6), (7, .int x7), (8, .int x8), (9, .int x9), (10, .int x10), (11, .int x11), (12, .int x12), (13, .int x13)] → wj_b_L_follows_305 Q k167 o x1 x2 x3 x4 x5 x6 x7 x8 x9 x10 x11 x12 x13 y0 → W p l e ({ frames := 9, cells := 284, slots := 1704, locals := 158 } : Room) s m ([.ref (a 0), .int a1] : List Value).toArray below meth c H locs k z (MQ below (va_Qi (fun (r : Int32) (u : OB) => (r = 0 ∨ r = 1) ∧ Q r u) (mBk G A (fun (u : OB) => (wOB G a u))) A) ([.ref (a 0), .int a1] : List Value).toArray s 284 1704 A) (F0 m 305 ls [.int y0]) := by
    intro k167 nn167 hk167 k z o x1 x2 x3 x4 x5 x6 x7 x8 x9 x10 x11 x12 x13 y0 H locs ls hbk hbz hz_x7 hz_x13 hz_y0 hP hD hS hl hw
    unfold wj_b_L_follows_305 at hw
    refine lv_istore (lv' := [(7, .int y0), (0, .ref (a 0)), (1, .int x1), (2, .int x2), (3, .int x3), (4, .int x4), (5, .int x5), (6, .int x6), (8, .int x8), (9, .int x9), (10, .int x10), (11, .int x11), (12, .int x12), (13, .int x13)]) hx hb dL_follows_305 hl (by decide) rfl (fun ls hl => ?_)
    refine lv_iload hx hb dL_follows_307 (lv_at hl 0 rfl) ?_
    refine lv_if_eq (tgt := 428) hx hb dL_follows_309 (by decide) (fun cd96 => ?_) (fun cd96 => ?_)
    · have hw := hw.1 cd96
      exact J428 k167 nn167 hk167 _ _ o x1 x2 x3 x4 x5 x6 y0 x8 x9 x10 x11 x12 x13 _ _ _ (by omega) (by omega) hz_y0 hz_x13 hP hD hS (lv_sub hl [1, 2, 3, 4, 5, 6, 7, 0, 8, 9, 10, 11, 12, 13] rfl) hw
    · have hw := hw.2 cd96
      refine lv_aload_n hx hb dL_follows_312 rfl (lv_at hl 1 rfl) ?_
      refine lv_iload hx hb dL_follows_313 (lv_at hl 9 rfl) ?_
      refine kI_l (kr_SW [] ⟨hx, hb, hml, hown, hts⟩ (cb_L_strike l hst G a o x9 hw H.size) (vx_cwSW 2 hts gL_follows_L_strike rfl rfl rfl (by decide +kernel) ⟨Nat.le_of_ble_eq_true rfl, Nat.le_of_ble_eq_true rfl⟩) hK hG hP hD hS hA (List.range 51) nd51 (rg51 G a _) rfl hl.1 rfl (Nat.le_of_ble_eq_true rfl) dL_follows_315 ⟨by show _ ≤ 284; omega, by show _ ≤ 1704; omega⟩) hP hD hS hA (fun r113 o114 H locs hw hP hD hS => ?_)
      refine lv_iload hx hb dL_follows_318 (lv_at hl 10 rfl) ?_
      refine lv_i2l hx hb dL_follows_320 rfl ?_
      refine W.lcmp hx hb dL_follows_321 ?_
      refine lv_if_ne (tgt := 428) hx hb dL_follows_322 (by decide) (fun cd115 => ?_) (fun cd115 => ?_)
      · have hw := hw.1 cd115
        exact J428 k167 nn167 hk167 _ _ o114 x1 x2 x3 x4 x5 x6 y0 x8 x9 x10 x11 x12 x13 _ _ _ (by omega) (by omega) hz_y0 hz_x13 hP hD hS (lv_sub hl [1, 2, 3, 4, 5, 6, 7, 0, 8, 9, 10, 11, 12, 13] rfl) hw
      · have hw := hw.2 cd115
        refine lv_aload_n hx hb dL_follows_325 rfl (lv_at hl 1 rfl) ?_
        refine kb_X5_rehearsals a o114  hw ⟨hx, hb, hml, hown, hts⟩ (cwV 0 hts gL_follows_X5_rehearsals rfl rfl rfl (by decide +kernel) ⟨Nat.le_of_ble_eq_true rfl, Nat.le_of_ble_eq_true rfl⟩) hK hG hP hD hS hA hl.1 (Nat.le_of_ble_eq_true rfl) dL_follows_326 ⟨by show _ ≤ 284; omega, by show _ ≤ 1704; omega⟩ (fun r116 o117 H locs hw hP hD hS => ?_)
        refine lv_iload_n hx hb dL_follows_329 rfl (lv_at hl 3 rfl) ?_
        refine lv_iconst (v := 1) hx hb dL_follows_330 (by decide) ?_
        refine lv_isub hx hb dL_follows_331 ?_
        refine lv_icmp_ne (tgt := 428) hx hb dL_follows_332 (by decide) (fun cd118 => ?_) (fun cd118 => ?_)
        · have hw := hw.1 cd118
          exact J428 k167 nn167 hk167 _ _ o117 x1 x2 x3 x4 x5 x6 y0 x8 x9 x10 x11 x12 x13 _ _ _ (by omega) (by omega) hz_y0 hz_x13 hP hD hS (lv_sub hl [1, 2, 3, 4, 5, 6, 7, 0, 8, 9, 10, 11, 12, 13] rfl) hw
        · have hw := hw.2 cd118
          refine lv_aload_n hx hb dL_follows_335 rfl (lv_at hl 1 rfl) ?_
          refine kb_X5_conflictsByPairs a o117  hw ⟨hx, hb, hml, hown, hts⟩ (cwV 0 hts gL_follows_X5_conflictsByPairs rfl rfl rfl (by decide +kernel) ⟨Nat.le_of_ble_eq_true rfl, Nat.le_of_ble_eq_true rfl⟩) hK hG hP hD hS hA hl.1 (Nat.le_of_ble_eq_true rfl) dL_follows_336 ⟨by show _ ≤ 284; omega, by show _ ≤ 1704; omega⟩ (fun r119 o120 H locs hw hP hD hS => ?_)
          refine lv_iload hx hb dL_follows_339 (lv_at hl 6 rfl) ?_
          refine lv_iload hx hb dL_follows_341 (lv_at hl 11 rfl) ?_
          refine lv_isub hx hb dL_follows_343 ?_
          refine lv_icmp_ne (tgt := 428) hx hb dL_follows_344 (by decide) (fun cd121 => ?_) (fun cd121 => ?_)
          · have hw := hw.1 cd121
            exact J428 k167 nn167 hk167 _ _ o120 x1 x2 x3 x4 x5 x6 y0 x8 x9 x10 x11 x12 x13 _ _ _ (by omega) (by omega) hz_y0 hz_x13 hP hD hS (lv_sub hl [1, 2, 3, 4, 5, 6, 7, 0, 8, 9, 10, 11, 12, 13] rfl) hw
          · have hw := hw.2 cd121
            refine lv_aload_n hx hb dL_follows_347 rfl (lv_at hl 1 rfl) ?_
            refine kb_X5_bestByTable a o120  hw ⟨hx, hb, hml, hown, hts⟩ (cwV 0 hts gL_follows_X5_bestByTable rfl rfl rfl (by decide +kernel) ⟨Nat.le_of_ble_eq_true rfl, Nat.le_of_ble_eq_true rfl⟩) hK hG hP hD hS hA hl.1 (Nat.le_of_ble_eq_true rfl) dL_follows_348 ⟨by show _ ≤ 284; omega, by show _ ≤ 1704; omega⟩ (fun r122 o123 H locs hw hP hD hS => ?_)
            refine lv_iload_n hx hb dL_follows_351 rfl (lv_at hl 4 rfl) ?_
            refine lv_icmp_gt (tgt := 428) hx hb dL_follows_352 (by decide) (fun cd124 => ?_) (fun cd124 => ?_)
            · have hw := hw.1 cd124
              exact J428 k167 nn167 hk167 _ _ o123 x1 x2 x3 x4 x5 x6 y0 x8 x9 x10 x11 x12 x13 _ _ _ (by omega) (by omega) hz_y0 hz_x13 hP hD hS (lv_sub hl [1, 2, 3, 4, 5, 6, 7, 0, 8, 9, 10, 11, 12, 13] rfl) hw
            · have hw := hw.2 cd124
              refine lv_aload_n hx hb dL_follows_355 rfl (lv_at hl 1 rfl) ?_
              refine kb_X5_bestByTable a o123  hw ⟨hx, hb, hml, hown, hts⟩ (cwV 0 hts gL_follows_X5_bestByTable rfl rfl rfl (by decide +kernel) ⟨Nat.le_of_ble_eq_true rfl, Nat.le_of_ble_eq_true rfl⟩) hK hG hP hD hS hA hl.1 (Nat.le_of_ble_eq_true rfl) dL_follows_356 ⟨by show _ ≤ 284; omega, by show _ ≤ 1704; omega⟩ (fun r125 o126 H locs hw hP hD hS => ?_)
              refine lv_iload_n hx hb dL_follows_359 rfl (lv_at hl 4 rfl) ?_
              refine lv_iload hx hb dL_follows_360 (lv_at hl 10 rfl) ?_
              refine lv_isub hx hb dL_follows_362 ?_
              refine lv_icmp_lt (tgt := 428) hx hb dL_follows_363 (by decide) (fun cd127 => ?_) (fun cd127 => ?_)
              · have hw := hw.1 cd127
                exact J428 k167 nn167 hk167 _ _ o126 x1 x2 x3 x4 x5 x6 y0 x8 x9 x10 x11 x12 x13 _ _ _ (by omega) (by omega) hz_y0 hz_x13 hP hD hS (lv_sub hl [1, 2, 3, 4, 5, 6, 7, 0, 8, 9, 10, 11, 12, 13] rfl) hw
              · have hw := hw.2 cd127
                refine lv_iload hx hb dL_follows_366 (lv_at hl 7 rfl) ?_
                refine lv_iload hx hb dL_follows_368 (lv_at hl 9 rfl) ?_
                refine lv_ishr hx hb dL_follows_370 ?_
                refine lv_iconst (v := 1) hx hb dL_follows_371 (by decide) ?_
                refine lv_iand hx hb dL_follows_372 ?_
                refine lv_iconst (v := 1) hx hb dL_follows_373 (by decide) ?_
                refine lv_icmp_eq (tgt := 385) hx hb dL_follows_374 (by decide) (fun cd128 => ?_) (fun cd128 => ?_)
                · have hw := hw.1 cd128
                  exact J385 k167 nn167 hk167 _ _ o126 x1 x2 x3 x4 x5 x6 y0 x8 x9 x10 x11 x12 x13 _ _ _ (by omega) (by omega) hz_y0 hz_x13 hP hD hS (lv_sub hl [1, 2, 3, 4, 5, 6, 7, 0, 8, 9, 10, 11, 12, 13] rfl) hw
                · have hw := hw.2 cd128
                  refine lv_aload_n hx hb dL_follows_377 rfl (lv_at hl 1 rfl) ?_
                  refine kb_X5_bestByTable a o126  hw ⟨hx, hb, hml, hown, hts⟩ (cwV 0 hts gL_follows_X5_bestByTable rfl rfl rfl (by decide +kernel) ⟨Nat.le_of_ble_eq_true rfl, Nat.le_of_ble_eq_true rfl⟩) hK hG hP hD hS hA hl.1 (Nat.le_of_ble_eq_true rfl) dL_follows_378 ⟨by show _ ≤ 284; omega, by show _ ≤ 1704; omega⟩ (fun r139 o140 H locs hw hP hD hS => ?_)
                  refine lv_iload_n hx hb dL_follows_381 rfl (lv_at hl 4 rfl) ?_
                  refine lv_icmp_ne (tgt := 428) hx hb dL_follows_382 (by decide) (fun cd141 => ?_) (fun cd141 => ?_)
                  · have hw := hw.1 cd141
                    exact J428 k167 nn167 hk167 _ _ o140 x1 x2 x3 x4 x5 x6 y0 x8 x9 x10 x11 x12 x13 _ _ _ (by omega) (by omega) hz_y0 hz_x13 hP hD hS (lv_sub hl [1, 2, 3, 4, 5, 6, 7, 0, 8, 9, 10, 11, 12, 13] rfl) hw
                  · have hw := hw.2 cd141
                    exact J385 k167 nn167 hk167 _ _ o140 x1 x2 x3 x4 x5 x6 y0 x8 x9 x10 x11 x12 x13 _ _ _ (by omega) (by omega) hz_y0 hz_x13 hP hD hS (lv_sub hl [1, 2, 3, 4, 5, 6, 7, 0, 8, 9, 10, 11, 12, 13] rfl) hw
  have J304 : ∀ (k167 : OB → Int32 → Int32 → Int32 → Int32 → Int32 → Int32 → Int32 → Int32 → Int32 → Prop) (nn167 : Nat) (hk167 : ∀ (k z : Nat) (o : OB) (x1 : Int32) (x2 : Int32) (x3 : Int32) (x4 : Int32) (x5 : Int32) (x6 : Int32) (x7 : Int32) (x8 : Int32) (x9 : Int32) (H : Heap) (locs : List Loc) (ls : Array Slot), k + nn167 ≤ 284 → z + 6 * nn167 ≤ 1704 → (x7 = 0 ∨ x7 = 1) → va_P (gD G) vwCl (wOB G a o) H → va_D A (wOB G a o) → va_S A s.heap H locs → lv_has ls 14 [(0, .ref (a 0)), (1, .int x1), (2, .int x2), (3, .int x3), (4, .int x4), (5, .int x5), (6, .int x6), (7, .int x7), (8, .int x8), (9, .int x9)] → k167 o x1 x2 x3 x4 x5 x6 x7 x8 x9 → W p l e ({ frames := 9, cells := 284, slots := 1704, locals := 158 } : Room) s m ([.ref (a 0), .int a1] : List Value).toArray below meth c H locs k z (MQ below (va_Qi (fun (r : Int32) (u : OB) => (r = 0 ∨ r = 1) ∧ Q r u) (mBk G A (fun (u : OB) => (wOB G a u))) A) ([.ref (a 0), .int a1] : List Value).toArray s 284 1704 A) (F0 m 167 ls [])) (k z : Nat) (o : OB) (x1 : Int32) (x2 : Int32) (x3 : Int32) (x4 : Int32) (x5 : Int32) (x6 : Int32) (x7 : Int32) (x8 : Int32) (x9 : Int32) (x10 : Int32) (x11 : Int32) (x12 : Int32) (x13 : Int32) (H : Heap) (locs : List Loc) (ls : Array Slot), k + (7 + nn167) ≤ 284 → z + 6 * (7 + nn167) ≤ 1704 → (x7 = 0 ∨ x7 = 1) → (x13 = 0 ∨ x13 = 1) → va_P (gD G) vwCl (wOB G a o) H → va_D A (wOB G a o) → va_S A s.heap H locs → lv_has ls 14 [(0, .ref (a 0)), (1, .int x1), (2, .int x2), (3, .int x3), (4, .int x4), (5, .int x5), (6, .int x6), (7, .int x7), (8, .int x8), (9, .int x9), (10, .int x10), (11, .int x11), (12, .int x12), (13, .int x13)] → wj_b_L_follows_304 Q k167 o x1 x2 x3 x4 x5 x6 x7 x8 x9 x10 x11 x12 x13 → W p l e ({ frames := 9, cells := 284, slots := 1704, locals := 158 } : Room) s m ([.ref (a 0), .int a1] : List Value).toArray below meth c H locs k z (MQ below (va_Qi (fun (r : Int32) (u : OB) => (r = 0 ∨ r = 1) ∧ Q r u) (mBk G A (fun (u : OB) => (wOB G a u))) A) ([.ref (a 0), .int a1] : List Value).toArray s 284 1704 A) (F0 m 304 ls []) := by
    intro k167 nn167 hk167 k z o x1 x2 x3 x4 x5 x6 x7 x8 x9 x10 x11 x12 x13 H locs ls hbk hbz hz_x7 hz_x13 hP hD hS hl hw
    unfold wj_b_L_follows_304 at hw
    refine lv_iconst (v := 0) hx hb dL_follows_304 (by decide) ?_
    exact J305 k167 nn167 hk167 _ _ o x1 x2 x3 x4 x5 x6 x7 x8 x9 x10 x11 x12 x13 (0 : Int32) _ _ _ (by omega) (by omega) hz_x7 hz_x13 (Or.inl rfl) hP hD hS hl hw
  have J291 : ∀ (k167 : OB → Int32 → Int32 → Int32 → Int32 → Int32 → Int32 → Int32 → Int32 → Int32 → Prop) (nn167 : Nat) (hk167 : ∀ (k z : Nat) (o : OB) (x1 : Int32) (x2 : Int32) (x3 : Int32) (x4 : Int32) (x5 : Int32) (x6 : Int32) (x7 : Int32) (x8 : Int32) (x9 : Int32) (H : Heap) (locs : List Loc) (ls : Array Slot), k + nn167 ≤ 284 → z + 6 * nn167 ≤ 1704 → (x7 = 0 ∨ x7 = 1) → va_P (gD G) vwCl (wOB G a o) H → va_D A (wOB G a o) → va_S A s.heap H locs → lv_has ls 14 [(0, .ref (a 0)), (1, .int x1), (2, .int x2), (3, .int x3), (4, .int x4), (5, .int x5), (6, .int x6), (7, .int x7), (8, .int x8), (9, .int x9)] → k167 o x1 x2 x3 x4 x5 x6 x7 x8 x9 → W p l e ({ frames := 9, cells := 284, slots := 1704, locals := 158 } : Room) s m ([.ref (a 0), .int a1] : List Value).toArray below meth c H locs k z (MQ below (va_Qi (fun (r : Int32) (u : OB) => (r = 0 ∨ r = 1) ∧ Q r u) (mBk G A (fun (u : OB) => (wOB G a u))) A) ([.ref (a 0), .int a1] : List Value).toArray s 284 1704 A) (F0 m 167 ls [])) (k z : Nat) (o : OB) (x1 : Int32) (x2 : Int32) (x3 : Int32) (x4 : Int32) (x5 : Int32) (x6 : Int32) (x7 : Int32) (x8 : Int32) (x9 : Int32) (x10 : Int32) (x11 : Int32) (x12 : Int32) (x13 : Int32) (H : Heap) (locs : List Loc) (ls : Array Slot), k + (7 + nn167) ≤ 284 → z + 6 * (7 + nn167) ≤ 1704 → (x7 = 0 ∨ x7 = 1) → (x13 = 0 ∨ x13 = 1) → va_P (gD G) vwCl (wOB G a o) H → va_D A (wOB G a o) → va_S A s.heap H locs → lv_has ls 14 [(0, .ref (a 0)), (1, .int x1), (2, .int x2), (3, .int x3), (4, .int x4), (5, .int x5), (6, .int x6), (7, .int x7), (8, .int x8), (9, .int x9), (10, .int x10), (11, .int x11), (12, .int x12), (13, .int x13)] → wj_b_L_follows_291 Q k167 o x1 x2 x3 x4 x5 x6 x7 x8 x9 x10 x11 x12 x13 → W p l e ({ frames := 9, cells := 284, slots := 1704, locals := 158 } : Room) s m ([.ref (a 0), .int a1] : List Value).toArray below meth c H locs k z (MQ below (va_Qi (fun (r : Int32) (u : OB) => (r = 0 ∨ r = 1) ∧ Q r u) (mBk G A (fun (u : OB) => (wOB G a u))) A) ([.ref (a 0), .int a1] : List Value).toArray s 284 1704 A) (F0 m 291 ls []) := by
    intro k167 nn167 hk167 k z o x1 x2 x3 x4 x5 x6 x7 x8 x9 x10 x11 x12 x13 H locs ls hbk hbz hz_x7 hz_x13 hP hD hS hl hw
    unfold wj_b_L_follows_291 at hw
    refine lv_aload_n hx hb dL_follows_291 rfl (lv_at hl 0 rfl) ?_
    refine kb_X5_bookedFame a o  hw ⟨hx, hb, hml, hown, hts⟩ (cwV 0 hts gL_follows_X5_bookedFame rfl rfl rfl (by decide +kernel) ⟨Nat.le_of_ble_eq_true rfl, Nat.le_of_ble_eq_true rfl⟩) hK hG hP hD hS hA hl.1 (Nat.le_of_ble_eq_true rfl) dL_follows_292 ⟨by show _ ≤ 284; omega, by show _ ≤ 1704; omega⟩ (fun r142 o143 H locs hw hP hD hS => ?_)
    refine lv_iload hx hb dL_follows_295 (lv_at hl 4 rfl) ?_
    refine lv_icmp_ne (tgt := 304) hx hb dL_follows_297 (by decide) (fun cd144 => ?_) (fun cd144 => ?_)
    · have hw := hw.1 cd144
      exact J304 k167 nn167 hk167 _ _ o143 x1 x2 x3 x4 x5 x6 x7 x8 x9 x10 x11 x12 x13 _ _ _ (by omega) (by omega) hz_x7 hz_x13 hP hD hS hl hw
    · have hw := hw.2 cd144
      refine lv_iconst (v := 1) hx hb dL_follows_300 (by decide) ?_
      refine lv_goto (tgt := 305) hx hb dL_follows_301 (by decide) ?_
      exact J305 k167 nn167 hk167 _ _ o143 x1 x2 x3 x4 x5 x6 x7 x8 x9 x10 x11 x12 x13 (1 : Int32) _ _ _ (by omega) (by omega) hz_x7 hz_x13 (Or.inr rfl) hP hD hS hl hw
  have J221 : ∀ (k167 : OB → Int32 → Int32 → Int32 → Int32 → Int32 → Int32 → Int32 → Int32 → Int32 → Prop) (nn167 : Nat) (hk167 : ∀ (k z : Nat) (o : OB) (x1 : Int32) (x2 : Int32) (x3 : Int32) (x4 : Int32) (x5 : Int32) (x6 : Int32) (x7 : Int32) (x8 : Int32) (x9 : Int32) (H : Heap) (locs : List Loc) (ls : Array Slot), k + nn167 ≤ 284 → z + 6 * nn167 ≤ 1704 → (x7 = 0 ∨ x7 = 1) → va_P (gD G) vwCl (wOB G a o) H → va_D A (wOB G a o) → va_S A s.heap H locs → lv_has ls 14 [(0, .ref (a 0)), (1, .int x1), (2, .int x2), (3, .int x3), (4, .int x4), (5, .int x5), (6, .int x6), (7, .int x7), (8, .int x8), (9, .int x9)] → k167 o x1 x2 x3 x4 x5 x6 x7 x8 x9 → W p l e ({ frames := 9, cells := 284, slots := 1704, locals := 158 } : Room) s m ([.ref (a 0), .int a1] : List Value).toArray below meth c H locs k z (MQ below (va_Qi (fun (r : Int32) (u : OB) => (r = 0 ∨ r = 1) ∧ Q r u) (mBk G A (fun (u : OB) => (wOB G a u))) A) ([.ref (a 0), .int a1] : List Value).toArray s 284 1704 A) (F0 m 167 ls [])) (k z : Nat) (o : OB) (x1 : Int32) (x2 : Int32) (x3 : Int32) (x4 : Int32) (x5 : Int32) (x6 : Int32) (x7 : Int32) (x8 : Int32) (x9 : Int32) (x10 : Int32) (x11 : Int32) (x12 : Int32) (y0 : Int32) (H : Heap) (locs : List Loc) (ls : Array Slot), k + (13 + nn167) ≤ 284 → z + 6 * (13 + nn167) ≤ 1704 → (x7 = 0 ∨ x7 = 1) → (y0 = 0 ∨ y0 = 1) → va_P (gD G) vwCl (wOB G a o) H → va_D A (wOB G a o) → va_S A s.heap H locs → lv_has ls 14 [(0, .ref (a 0)), (1, .int x1), (2, .int x2), (3, .int x3), (4, .int x4), (5, .int x5), (6, .int x6), (7, .int x7), (8, .int x8), (9, .int x9), (10, .int x10), (11, .int x11), (12, .int x12)] → wj_b_L_follows_221 Q k167 o x1 x2 x3 x4 x5 x6 x7 x8 x9 x10 x11 x12 y0 → W p l e ({ frames := 9, cells := 284, slots := 1704, locals := 158 } : Room) s m ([.ref (a 0), .int a1] : List Value).toArray below meth c H locs k z (MQ below (va_Qi (fun (r : Int32) (u : OB) => (r = 0 ∨ r = 1) ∧ Q r u) (mBk G A (fun (u : OB) => (wOB G a u))) A) ([.ref (a 0), .int a1] : List Value).toArray s 284 1704 A) (F0 m 221 ls [.int y0]) := by
    intro k167 nn167 hk167 k z o x1 x2 x3 x4 x5 x6 x7 x8 x9 x10 x11 x12 y0 H locs ls hbk hbz hz_x7 hz_y0 hP hD hS hl hw
    unfold wj_b_L_follows_221 at hw
    refine lv_istore (lv' := [(13, .int y0), (0, .ref (a 0)), (1, .int x1), (2, .int x2), (3, .int x3), (4, .int x4), (5, .int x5), (6, .int x6), (7, .int x7), (8, .int x8), (9, .int x9), (10, .int x10), (11, .int x11), (12, .int x12)]) hx hb dL_follows_221 hl (by decide) rfl (fun ls hl => ?_)
    refine lv_iload hx hb dL_follows_223 (lv_at hl 0 rfl) ?_
    refine lv_if_eq (tgt := 278) hx hb dL_follows_225 (by decide) (fun cd92 => ?_) (fun cd92 => ?_)
    · have hw := hw.1 cd92
      refine lv_aload_n hx hb dL_follows_278 rfl (lv_at hl 1 rfl) ?_
      refine lv_iload hx hb dL_follows_279 (lv_at hl 10 rfl) ?_
      refine kI_l (kr_SW [] ⟨hx, hb, hml, hown, hts⟩ (cb_L_cancel l hst G a o x9 hw H.size) (vx_cwSW 2 hts gL_follows_L_cancel rfl rfl rfl (by decide +kernel) ⟨Nat.le_of_ble_eq_true rfl, Nat.le_of_ble_eq_true rfl⟩) hK hG hP hD hS hA (List.range 51) nd51 (rg51 G a _) rfl hl.1 rfl (Nat.le_of_ble_eq_true rfl) dL_follows_281 ⟨by show _ ≤ 284; omega, by show _ ≤ 1704; omega⟩) hP hD hS hA (fun r93 o94 H locs hw hP hD hS => ?_)
      refine lv_ldc2 (v := -9000000000000000003) hx hb hown (hts _ k_L_follows_c21) dL_follows_284 ?_
      refine W.lcmp hx hb dL_follows_287 ?_
      refine lv_if_ne (tgt := 304) hx hb dL_follows_288 (by decide) (fun cd95 => ?_) (fun cd95 => ?_)
      · have hw := hw.1 cd95
        exact J304 k167 nn167 hk167 _ _ o94 x1 x2 x3 x4 x5 x6 x7 x8 x9 x10 x11 x12 y0 _ _ _ (by omega) (by omega) hz_x7 hz_y0 hP hD hS (lv_sub hl [1, 2, 3, 4, 5, 6, 7, 8, 9, 10, 11, 12, 13, 0] rfl) hw
      · have hw := hw.2 cd95
        exact J291 k167 nn167 hk167 _ _ o94 x1 x2 x3 x4 x5 x6 x7 x8 x9 x10 x11 x12 y0 _ _ _ (by omega) (by omega) hz_x7 hz_y0 hP hD hS (lv_sub hl [1, 2, 3, 4, 5, 6, 7, 8, 9, 10, 11, 12, 13, 0] rfl) hw
    · have hw := hw.2 cd92
      refine lv_aload_n hx hb dL_follows_228 rfl (lv_at hl 1 rfl) ?_
      refine lv_iload hx hb dL_follows_229 (lv_at hl 10 rfl) ?_
      refine kI_l (kr_SW [] ⟨hx, hb, hml, hown, hts⟩ (cb_L_cancel l hst G a o x9 hw H.size) (vx_cwSW 2 hts gL_follows_L_cancel rfl rfl rfl (by decide +kernel) ⟨Nat.le_of_ble_eq_true rfl, Nat.le_of_ble_eq_true rfl⟩) hK hG hP hD hS hA (List.range 51) nd51 (rg51 G a _) rfl hl.1 rfl (Nat.le_of_ble_eq_true rfl) dL_follows_231 ⟨by show _ ≤ 284; omega, by show _ ≤ 1704; omega⟩) hP hD hS hA (fun r145 o146 H locs hw hP hD hS => ?_)
      refine lv_iload hx hb dL_follows_234 (lv_at hl 5 rfl) ?_
      refine lv_iload hx hb dL_follows_236 (lv_at hl 11 rfl) ?_
      refine lv_isub hx hb dL_follows_238 ?_
      refine lv_i2l hx hb dL_follows_239 rfl ?_
      refine W.lcmp hx hb dL_follows_240 ?_
      refine lv_if_ne (tgt := 304) hx hb dL_follows_241 (by decide) (fun cd147 => ?_) (fun cd147 => ?_)
      · have hw := hw.1 cd147
        exact J304 k167 nn167 hk167 _ _ o146 x1 x2 x3 x4 x5 x6 x7 x8 x9 x10 x11 x12 y0 _ _ _ (by omega) (by omega) hz_x7 hz_y0 hP hD hS (lv_sub hl [1, 2, 3, 4, 5, 6, 7, 8, 9, 10, 11, 12, 13, 0] rfl) hw
      · have hw := hw.2 cd147
        refine lv_aload_n hx hb dL_follows_244 rfl (lv_at hl 1 rfl) ?_
        refine lv_iload hx hb dL_follows_245 (lv_at hl 10 rfl) ?_
        refine kI_l (kr_SW [] ⟨hx, hb, hml, hown, hts⟩ (cb_L_book l hst G a o146 x9 hw H.size) (vx_cwSW 2 hts gL_follows_L_book rfl rfl rfl (by decide +kernel) ⟨Nat.le_of_ble_eq_true rfl, Nat.le_of_ble_eq_true rfl⟩) hK hG hP hD hS hA (List.range 51) nd51 (rg51 G a _) rfl hl.1 rfl (Nat.le_of_ble_eq_true rfl) dL_follows_247 ⟨by show _ ≤ 284; omega, by show _ ≤ 1704; omega⟩) hP hD hS hA (fun r148 o149 H locs hw hP hD hS => ?_)
        refine lv_iload hx hb dL_follows_250 (lv_at hl 5 rfl) ?_
        refine lv_i2l hx hb dL_follows_252 rfl ?_
        refine W.lcmp hx hb dL_follows_253 ?_
        refine lv_if_ne (tgt := 304) hx hb dL_follows_254 (by decide) (fun cd150 => ?_) (fun cd150 => ?_)
        · have hw := hw.1 cd150
          exact J304 k167 nn167 hk167 _ _ o149 x1 x2 x3 x4 x5 x6 x7 x8 x9 x10 x11 x12 y0 _ _ _ (by omega) (by omega) hz_x7 hz_y0 hP hD hS (lv_sub hl [1, 2, 3, 4, 5, 6, 7, 8, 9, 10, 11, 12, 13, 0] rfl) hw
        · have hw := hw.2 cd150
          refine lv_aload_n hx hb dL_follows_257 rfl (lv_at hl 1 rfl) ?_
          refine kI_l (kr_SW [] ⟨hx, hb, hml, hown, hts⟩ (cb_L_undo l hst G a o149 hw H.size) (vx_cwSW 1 hts gL_follows_L_undo rfl rfl rfl (by decide +kernel) ⟨Nat.le_of_ble_eq_true rfl, Nat.le_of_ble_eq_true rfl⟩) hK hG hP hD hS hA (List.range 51) nd51 (rg51 G a _) rfl hl.1 rfl (Nat.le_of_ble_eq_true rfl) dL_follows_258 ⟨by show _ ≤ 284; omega, by show _ ≤ 1704; omega⟩) hP hD hS hA (fun r151 o152 H locs hw hP hD hS => ?_)
          refine lv_lconst (v := 0) hx hb dL_follows_261 (by decide) ?_
          refine W.lcmp hx hb dL_follows_262 ?_
          refine lv_if_ne (tgt := 304) hx hb dL_follows_263 (by decide) (fun cd153 => ?_) (fun cd153 => ?_)
          · have hw := hw.1 cd153
            exact J304 k167 nn167 hk167 _ _ o152 x1 x2 x3 x4 x5 x6 x7 x8 x9 x10 x11 x12 y0 _ _ _ (by omega) (by omega) hz_x7 hz_y0 hP hD hS (lv_sub hl [1, 2, 3, 4, 5, 6, 7, 8, 9, 10, 11, 12, 13, 0] rfl) hw
          · have hw := hw.2 cd153
            refine lv_aload_n hx hb dL_follows_266 rfl (lv_at hl 1 rfl) ?_
            refine kI_l (kr_SW [] ⟨hx, hb, hml, hown, hts⟩ (cb_L_undo l hst G a o152 hw H.size) (vx_cwSW 1 hts gL_follows_L_undo rfl rfl rfl (by decide +kernel) ⟨Nat.le_of_ble_eq_true rfl, Nat.le_of_ble_eq_true rfl⟩) hK hG hP hD hS hA (List.range 51) nd51 (rg51 G a _) rfl hl.1 rfl (Nat.le_of_ble_eq_true rfl) dL_follows_267 ⟨by show _ ≤ 284; omega, by show _ ≤ 1704; omega⟩) hP hD hS hA (fun r154 o155 H locs hw hP hD hS => ?_)
            refine lv_lconst (v := 0) hx hb dL_follows_270 (by decide) ?_
            refine W.lcmp hx hb dL_follows_271 ?_
            refine lv_if_ne (tgt := 304) hx hb dL_follows_272 (by decide) (fun cd156 => ?_) (fun cd156 => ?_)
            · have hw := hw.1 cd156
              exact J304 k167 nn167 hk167 _ _ o155 x1 x2 x3 x4 x5 x6 x7 x8 x9 x10 x11 x12 y0 _ _ _ (by omega) (by omega) hz_x7 hz_y0 hP hD hS (lv_sub hl [1, 2, 3, 4, 5, 6, 7, 8, 9, 10, 11, 12, 13, 0] rfl) hw
            · have hw := hw.2 cd156
              refine lv_goto (tgt := 291) hx hb dL_follows_275 (by decide) ?_
              exact J291 k167 nn167 hk167 _ _ o155 x1 x2 x3 x4 x5 x6 x7 x8 x9 x10 x11 x12 y0 _ _ _ (by omega) (by omega) hz_x7 hz_y0 hP hD hS (lv_sub hl [1, 2, 3, 4, 5, 6, 7, 8, 9, 10, 11, 12, 13, 0] rfl) hw
  have J167 : ∀ (n : Nat) (k z : Nat) (o : OB) (x1 : Int32) (x2 : Int32) (x3 : Int32) (x4 : Int32) (x5 : Int32) (x6 : Int32) (x7 : Int32) (x8 : Int32) (x9 : Int32) (H : Heap) (locs : List Loc) (ls : Array Slot), k + (n * 17 + 12) ≤ 284 → z + 6 * (n * 17 + 12) ≤ 1704 → (x7 = 0 ∨ x7 = 1) → va_P (gD G) vwCl (wOB G a o) H → va_D A (wOB G a o) → va_S A s.heap H locs → lv_has ls 14 [(0, .ref (a 0)), (1, .int x1), (2, .int x2), (3, .int x3), (4, .int x4), (5, .int x5), (6, .int x6), (7, .int x7), (8, .int x8), (9, .int x9)] → wl_b_L_follows_167 Q n o x1 x2 x3 x4 x5 x6 x7 x8 x9 → W p l e ({ frames := 9, cells := 284, slots := 1704, locals := 158 } : Room) s m ([.ref (a 0), .int a1] : List Value).toArray below meth c H locs k z (MQ below (va_Qi (fun (r : Int32) (u : OB) => (r = 0 ∨ r = 1) ∧ Q r u) (mBk G A (fun (u : OB) => (wOB G a u))) A) ([.ref (a 0), .int a1] : List Value).toArray s 284 1704 A) (F0 m 167 ls []) := by
    intro n
    induction n with
    | zero => intro k z o x1 x2 x3 x4 x5 x6 x7 x8 x9 H locs ls hbk hbz hz_x7 hP hD hS hl hw; exact False.elim hw
    | succ n ih =>
      intro k z o x1 x2 x3 x4 x5 x6 x7 x8 x9 H locs ls hbk hbz hz_x7 hP hD hS hl hw
      rw [wl_b_L_follows_167] at hw
      refine lv_iload hx hb dL_follows_167 (lv_at hl 9 rfl) ?_
      refine lv_iload_n hx hb dL_follows_169 rfl (lv_at hl 2 rfl) ?_
      refine lv_icmp_ge (tgt := 513) hx hb dL_follows_170 (by decide) (fun cd19 => ?_) (fun cd19 => ?_)
      · have hw := hw.1 cd19
        exact J513 _ _ o x1 x2 x3 x4 x5 x6 x7 x8 x9 _ _ _ (by omega) (by omega) hz_x7 hP hD hS hl hw
      · have hw := hw.2 cd19
        refine lv_iload hx hb dL_follows_173 (lv_at hl 7 rfl) ?_
        refine lv_if_eq (tgt := 513) hx hb dL_follows_175 (by decide) (fun cd82 => ?_) (fun cd82 => ?_)
        · have hw := hw.1 cd82
          exact J513 _ _ o x1 x2 x3 x4 x5 x6 x7 x8 x9 _ _ _ (by omega) (by omega) hz_x7 hP hD hS hl hw
        · have hw := hw.2 cd82
          refine lv_aload_n hx hb dL_follows_178 rfl (lv_at hl 0 rfl) ?_
          refine lv_iload hx hb dL_follows_179 (lv_at hl 9 rfl) ?_
          refine kI_l (kr_SW [] ⟨hx, hb, hml, hown, hts⟩ (cb_L_fameOf l hst G a o x9 hw H.size) (vx_cwSW 2 hts gL_follows_L_fameOf rfl rfl rfl (by decide +kernel) ⟨Nat.le_of_ble_eq_true rfl, Nat.le_of_ble_eq_true rfl⟩) hK hG hP hD hS hA (List.range 51) nd51 (rg51 G a _) rfl hl.1 rfl (Nat.le_of_ble_eq_true rfl) dL_follows_181 ⟨by show _ ≤ 284; omega, by show _ ≤ 1704; omega⟩) hP hD hS hA (fun r83 o84 H locs hw hP hD hS => ?_)
          refine lv_l2i hx hb dL_follows_184 rfl ?_
          refine lv_istore (lv' := [(10, .int r83.toInt32), (0, .ref (a 0)), (1, .int x1), (2, .int x2), (3, .int x3), (4, .int x4), (5, .int x5), (6, .int x6), (7, .int x7), (8, .int x8), (9, .int x9)]) hx hb dL_follows_185 hl (by decide) rfl (fun ls hl => ?_)
          refine lv_aload_n hx hb dL_follows_187 rfl (lv_at hl 1 rfl) ?_
          refine lv_iload hx hb dL_follows_188 (lv_at hl 10 rfl) ?_
          refine kI_l (kr_SW [] ⟨hx, hb, hml, hown, hts⟩ (cb_L_conflictsOf l hst G a o84 x9 hw H.size) (vx_cwSW 2 hts gL_follows_L_conflictsOf rfl rfl rfl (by decide +kernel) ⟨Nat.le_of_ble_eq_true rfl, Nat.le_of_ble_eq_true rfl⟩) hK hG hP hD hS hA (List.range 51) nd51 (rg51 G a _) rfl hl.1 rfl (Nat.le_of_ble_eq_true rfl) dL_follows_190 ⟨by show _ ≤ 284; omega, by show _ ≤ 1704; omega⟩) hP hD hS hA (fun r85 o86 H locs hw hP hD hS => ?_)
          refine lv_l2i hx hb dL_follows_193 rfl ?_
          refine lv_istore (lv' := [(11, .int r85.toInt32), (10, .int r83.toInt32), (0, .ref (a 0)), (1, .int x1), (2, .int x2), (3, .int x3), (4, .int x4), (5, .int x5), (6, .int x6), (7, .int x7), (8, .int x8), (9, .int x9)]) hx hb dL_follows_194 hl (by decide) rfl (fun ls hl => ?_)
          refine lv_aload_n hx hb dL_follows_196 rfl (lv_at hl 2 rfl) ?_
          refine lv_iload hx hb dL_follows_197 (lv_at hl 11 rfl) ?_
          refine kI_l (kr_SW [] ⟨hx, hb, hml, hown, hts⟩ (cb_L_bestWith l hst G a o86 x9 hw H.size) (vx_cwSW 2 hts gL_follows_L_bestWith rfl rfl rfl (by decide +kernel) ⟨Nat.le_of_ble_eq_true rfl, Nat.le_of_ble_eq_true rfl⟩) hK hG hP hD hS hA (List.range 51) nd51 (rg51 G a _) rfl hl.1 rfl (Nat.le_of_ble_eq_true rfl) dL_follows_199 ⟨by show _ ≤ 284; omega, by show _ ≤ 1704; omega⟩) hP hD hS hA (fun r87 o88 H locs hw hP hD hS => ?_)
          refine lv_l2i hx hb dL_follows_202 rfl ?_
          refine lv_istore (lv' := [(12, .int r87.toInt32), (11, .int r85.toInt32), (10, .int r83.toInt32), (0, .ref (a 0)), (1, .int x1), (2, .int x2), (3, .int x3), (4, .int x4), (5, .int x5), (6, .int x6), (7, .int x7), (8, .int x8), (9, .int x9)]) hx hb dL_follows_203 hl (by decide) rfl (fun ls hl => ?_)
          refine lv_aload_n hx hb dL_follows_205 rfl (lv_at hl 3 rfl) ?_
          refine lv_iload hx hb dL_follows_206 (lv_at hl 12 rfl) ?_
          refine kI_l (kr_SW [] ⟨hx, hb, hml, hown, hts⟩ (cb_L_isBooked l hst G a o88 x9 hw H.size) (vx_cwSW 2 hts gL_follows_L_isBooked rfl rfl rfl (by decide +kernel) ⟨Nat.le_of_ble_eq_true rfl, Nat.le_of_ble_eq_true rfl⟩) hK hG hP hD hS hA (List.range 51) nd51 (rg51 G a _) rfl hl.1 rfl (Nat.le_of_ble_eq_true rfl) dL_follows_208 ⟨by show _ ≤ 284; omega, by show _ ≤ 1704; omega⟩) hP hD hS hA (fun r89 o90 H locs hw hP hD hS => ?_)
          refine lv_lconst (v := 1) hx hb dL_follows_211 (by decide) ?_
          refine W.lcmp hx hb dL_follows_212 ?_
          refine lv_if_ne (tgt := 220) hx hb dL_follows_213 (by decide) (fun cd91 => ?_) (fun cd91 => ?_)
          · have hw := hw.1 cd91
            refine lv_iconst (v := 0) hx hb dL_follows_220 (by decide) ?_
            exact J221 (fun (z0 : OB) (z1 : Int32) (z2 : Int32) (z3 : Int32) (z4 : Int32) (z5 : Int32) (z6 : Int32) (z7 : Int32) (z8 : Int32) (z9 : Int32) => wl_b_L_follows_167 Q n z0 z1 z2 z3 z4 z5 z6 z7 z8 z9) (n * 17 + 12) ih _ _ o90 x1 x2 x3 x4 x5 x6 x7 x8 x9 r83.toInt32 r85.toInt32 r87.toInt32 (0 : Int32) _ _ _ (by omega) (by omega) hz_x7 (Or.inl rfl) hP hD hS (lv_sub hl [3, 4, 5, 6, 7, 8, 9, 10, 11, 12, 2, 1, 0] rfl) hw
          · have hw := hw.2 cd91
            refine lv_iconst (v := 1) hx hb dL_follows_216 (by decide) ?_
            refine lv_goto (tgt := 221) hx hb dL_follows_217 (by decide) ?_
            exact J221 (fun (z0 : OB) (z1 : Int32) (z2 : Int32) (z3 : Int32) (z4 : Int32) (z5 : Int32) (z6 : Int32) (z7 : Int32) (z8 : Int32) (z9 : Int32) => wl_b_L_follows_167 Q n z0 z1 z2 z3 z4 z5 z6 z7 z8 z9) (n * 17 + 12) ih _ _ o90 x1 x2 x3 x4 x5 x6 x7 x8 x9 r83.toInt32 r85.toInt32 r87.toInt32 (1 : Int32) _ _ _ (by omega) (by omega) hz_x7 (Or.inr rfl) hP hD hS (lv_sub hl [3, 4, 5, 6, 7, 8, 9, 10, 11, 12, 2, 1, 0] rfl) hw
  have J134 : ∀ (k z : Nat) (o : OB) (x1 : Int32) (x2 : Int32) (x3 : Int32) (x4 : Int32) (x5 : Int32) (x6 : Int32) (x7 : Int32) (x8 : Int32) (x9 : Int32) (H : Heap) (locs : List Loc) (ls : Array Slot), k + (268) ≤ 284 → z + 6 * (268) ≤ 1704 → (x7 = 0 ∨ x7 = 1) → va_P (gD G) vwCl (wOB G a o) H → va_D A (wOB G a o) → va_S A s.heap H locs → lv_has ls 14 [(0, .ref (a 0)), (1, .int x1), (2, .int x2), (3, .int x3), (4, .int x4), (5, .int x5), (6, .int x6), (7, .int x7), (8, .int x8), (9, .int x9)] → wj_b_L_follows_134 Q o x1 x2 x3 x4 x5 x6 x7 x8 x9 → W p l e ({ frames := 9, cells := 284, slots := 1704, locals := 158 } : Room) s m ([.ref (a 0), .int a1] : List Value).toArray below meth c H locs k z (MQ below (va_Qi (fun (r : Int32) (u : OB) => (r = 0 ∨ r = 1) ∧ Q r u) (mBk G A (fun (u : OB) => (wOB G a u))) A) ([.ref (a 0), .int a1] : List Value).toArray s 284 1704 A) (F0 m 134 ls []) := by
    intro k z o x1 x2 x3 x4 x5 x6 x7 x8 x9 H locs ls hbk hbz hz_x7 hP hD hS hl hw
    unfold wj_b_L_follows_134 at hw
    refine lv_iload hx hb dL_follows_134 (lv_at hl 7 rfl) ?_
    refine lv_if_eq (tgt := 161) hx hb dL_follows_136 (by decide) (fun cd18 => ?_) (fun cd18 => ?_)
    · have hw := hw.1 cd18
      refine lv_iconst (v := 0) hx hb dL_follows_161 (by decide) ?_
      refine lv_istore (lv' := [(7, .int (0 : Int32)), (0, .ref (a 0)), (1, .int x1), (2, .int x2), (3, .int x3), (4, .int x4), (5, .int x5), (6, .int x6), (8, .int x8), (9, .int x9)]) hx hb dL_follows_162 hl (by decide) rfl (fun ls hl => ?_)
      refine lv_iconst (v := 0) hx hb dL_follows_164 (by decide) ?_
      refine lv_istore (lv' := [(9, .int (0 : Int32)), (7, .int (0 : Int32)), (0, .ref (a 0)), (1, .int x1), (2, .int x2), (3, .int x3), (4, .int x4), (5, .int x5), (6, .int x6), (8, .int x8)]) hx hb dL_follows_165 hl (by decide) rfl (fun ls hl => ?_)
      exact J167 15 _ _ o x1 x2 x3 x4 x5 x6 (0 : Int32) x8 (0 : Int32) _ _ _ (by omega) (by omega) (Or.inl rfl) hP hD hS (lv_sub hl [2, 3, 4, 5, 6, 7, 8, 1, 9, 0] rfl) hw
    · have hw := hw.2 cd18
      refine lv_aload_n hx hb dL_follows_139 rfl (lv_at hl 0 rfl) ?_
      refine kI_l (kr_SW [] ⟨hx, hb, hml, hown, hts⟩ (cb_L_undo l hst G a o hw H.size) (vx_cwSW 1 hts gL_follows_L_undo rfl rfl rfl (by decide +kernel) ⟨Nat.le_of_ble_eq_true rfl, Nat.le_of_ble_eq_true rfl⟩) hK hG hP hD hS hA (List.range 51) nd51 (rg51 G a _) rfl hl.1 rfl (Nat.le_of_ble_eq_true rfl) dL_follows_140 ⟨by show _ ≤ 284; omega, by show _ ≤ 1704; omega⟩) hP hD hS hA (fun r157 o158 H locs hw hP hD hS => ?_)
      refine lv_lconst (v := 0) hx hb dL_follows_143 (by decide) ?_
      refine W.lcmp hx hb dL_follows_144 ?_
      refine lv_if_ne (tgt := 161) hx hb dL_follows_145 (by decide) (fun cd159 => ?_) (fun cd159 => ?_)
      · have hw := hw.1 cd159
        refine lv_iconst (v := 0) hx hb dL_follows_161 (by decide) ?_
        refine lv_istore (lv' := [(7, .int (0 : Int32)), (0, .ref (a 0)), (1, .int x1), (2, .int x2), (3, .int x3), (4, .int x4), (5, .int x5), (6, .int x6), (8, .int x8), (9, .int x9)]) hx hb dL_follows_162 hl (by decide) rfl (fun ls hl => ?_)
        refine lv_iconst (v := 0) hx hb dL_follows_164 (by decide) ?_
        refine lv_istore (lv' := [(9, .int (0 : Int32)), (7, .int (0 : Int32)), (0, .ref (a 0)), (1, .int x1), (2, .int x2), (3, .int x3), (4, .int x4), (5, .int x5), (6, .int x6), (8, .int x8)]) hx hb dL_follows_165 hl (by decide) rfl (fun ls hl => ?_)
        exact J167 15 _ _ o158 x1 x2 x3 x4 x5 x6 (0 : Int32) x8 (0 : Int32) _ _ _ (by omega) (by omega) (Or.inl rfl) hP hD hS (lv_sub hl [2, 3, 4, 5, 6, 7, 8, 1, 9, 0] rfl) hw
      · have hw := hw.2 cd159
        refine lv_aload_n hx hb dL_follows_148 rfl (lv_at hl 0 rfl) ?_
        refine kb_X5_bookedFame a o158  hw ⟨hx, hb, hml, hown, hts⟩ (cwV 0 hts gL_follows_X5_bookedFame rfl rfl rfl (by decide +kernel) ⟨Nat.le_of_ble_eq_true rfl, Nat.le_of_ble_eq_true rfl⟩) hK hG hP hD hS hA hl.1 (Nat.le_of_ble_eq_true rfl) dL_follows_149 ⟨by show _ ≤ 284; omega, by show _ ≤ 1704; omega⟩ (fun r160 o161 H locs hw hP hD hS => ?_)
        refine lv_iload hx hb dL_follows_152 (lv_at hl 4 rfl) ?_
        refine lv_icmp_ne (tgt := 161) hx hb dL_follows_154 (by decide) (fun cd162 => ?_) (fun cd162 => ?_)
        · have hw := hw.1 cd162
          refine lv_iconst (v := 0) hx hb dL_follows_161 (by decide) ?_
          refine lv_istore (lv' := [(7, .int (0 : Int32)), (0, .ref (a 0)), (1, .int x1), (2, .int x2), (3, .int x3), (4, .int x4), (5, .int x5), (6, .int x6), (8, .int x8), (9, .int x9)]) hx hb dL_follows_162 hl (by decide) rfl (fun ls hl => ?_)
          refine lv_iconst (v := 0) hx hb dL_follows_164 (by decide) ?_
          refine lv_istore (lv' := [(9, .int (0 : Int32)), (7, .int (0 : Int32)), (0, .ref (a 0)), (1, .int x1), (2, .int x2), (3, .int x3), (4, .int x4), (5, .int x5), (6, .int x6), (8, .int x8)]) hx hb dL_follows_165 hl (by decide) rfl (fun ls hl => ?_)
          exact J167 15 _ _ o161 x1 x2 x3 x4 x5 x6 (0 : Int32) x8 (0 : Int32) _ _ _ (by omega) (by omega) (Or.inl rfl) hP hD hS (lv_sub hl [2, 3, 4, 5, 6, 7, 8, 1, 9, 0] rfl) hw
        · have hw := hw.2 cd162
          refine lv_iconst (v := 1) hx hb dL_follows_157 (by decide) ?_
          refine lv_goto (tgt := 162) hx hb dL_follows_158 (by decide) ?_
          refine lv_istore (lv' := [(7, .int (1 : Int32)), (0, .ref (a 0)), (1, .int x1), (2, .int x2), (3, .int x3), (4, .int x4), (5, .int x5), (6, .int x6), (8, .int x8), (9, .int x9)]) hx hb dL_follows_162 hl (by decide) rfl (fun ls hl => ?_)
          refine lv_iconst (v := 0) hx hb dL_follows_164 (by decide) ?_
          refine lv_istore (lv' := [(9, .int (0 : Int32)), (7, .int (1 : Int32)), (0, .ref (a 0)), (1, .int x1), (2, .int x2), (3, .int x3), (4, .int x4), (5, .int x5), (6, .int x6), (8, .int x8)]) hx hb dL_follows_165 hl (by decide) rfl (fun ls hl => ?_)
          exact J167 15 _ _ o161 x1 x2 x3 x4 x5 x6 (1 : Int32) x8 (0 : Int32) _ _ _ (by omega) (by omega) (Or.inr rfl) hP hD hS (lv_sub hl [2, 3, 4, 5, 6, 7, 8, 1, 9, 0] rfl) hw
  have J92 : ∀ (n : Nat) (k z : Nat) (o : OB) (x1 : Int32) (x2 : Int32) (x3 : Int32) (x4 : Int32) (x5 : Int32) (x6 : Int32) (x7 : Int32) (x8 : Int32) (x9 : Int32) (H : Heap) (locs : List Loc) (ls : Array Slot), k + (n * 1 + 268) ≤ 284 → z + 6 * (n * 1 + 268) ≤ 1704 → (x7 = 0 ∨ x7 = 1) → va_P (gD G) vwCl (wOB G a o) H → va_D A (wOB G a o) → va_S A s.heap H locs → lv_has ls 14 [(0, .ref (a 0)), (1, .int x1), (2, .int x2), (3, .int x3), (4, .int x4), (5, .int x5), (6, .int x6), (7, .int x7), (8, .int x8), (9, .int x9)] → wl_b_L_follows_92 Q n o x1 x2 x3 x4 x5 x6 x7 x8 x9 → W p l e ({ frames := 9, cells := 284, slots := 1704, locals := 158 } : Room) s m ([.ref (a 0), .int a1] : List Value).toArray below meth c H locs k z (MQ below (va_Qi (fun (r : Int32) (u : OB) => (r = 0 ∨ r = 1) ∧ Q r u) (mBk G A (fun (u : OB) => (wOB G a u))) A) ([.ref (a 0), .int a1] : List Value).toArray s 284 1704 A) (F0 m 92 ls []) := by
    intro n
    induction n with
    | zero => intro k z o x1 x2 x3 x4 x5 x6 x7 x8 x9 H locs ls hbk hbz hz_x7 hP hD hS hl hw; exact False.elim hw
    | succ n ih =>
      intro k z o x1 x2 x3 x4 x5 x6 x7 x8 x9 H locs ls hbk hbz hz_x7 hP hD hS hl hw
      rw [wl_b_L_follows_92] at hw
      refine lv_iload hx hb dL_follows_92 (lv_at hl 9 rfl) ?_
      refine lv_iload_n hx hb dL_follows_94 rfl (lv_at hl 2 rfl) ?_
      refine lv_icmp_ge (tgt := 134) hx hb dL_follows_95 (by decide) (fun cd17 => ?_) (fun cd17 => ?_)
      · have hw := hw.1 cd17
        exact J134 _ _ o x1 x2 x3 x4 x5 x6 x7 x8 x9 _ _ _ (by omega) (by omega) hz_x7 hP hD hS hl hw
      · have hw := hw.2 cd17
        refine lv_iload hx hb dL_follows_98 (lv_at hl 7 rfl) ?_
        refine lv_if_eq (tgt := 134) hx hb dL_follows_100 (by decide) (fun cd163 => ?_) (fun cd163 => ?_)
        · have hw := hw.1 cd163
          exact J134 _ _ o x1 x2 x3 x4 x5 x6 x7 x8 x9 _ _ _ (by omega) (by omega) hz_x7 hP hD hS hl hw
        · have hw := hw.2 cd163
          refine lv_aload_n hx hb dL_follows_103 rfl (lv_at hl 0 rfl) ?_
          refine lv_iload hx hb dL_follows_104 (lv_at hl 9 rfl) ?_
          refine kI_l (kr_SW [] ⟨hx, hb, hml, hown, hts⟩ (cb_L_isBooked l hst G a o x9 hw H.size) (vx_cwSW 2 hts gL_follows_L_isBooked rfl rfl rfl (by decide +kernel) ⟨Nat.le_of_ble_eq_true rfl, Nat.le_of_ble_eq_true rfl⟩) hK hG hP hD hS hA (List.range 51) nd51 (rg51 G a _) rfl hl.1 rfl (Nat.le_of_ble_eq_true rfl) dL_follows_106 ⟨by show _ ≤ 284; omega, by show _ ≤ 1704; omega⟩) hP hD hS hA (fun r164 o165 H locs hw hP hD hS => ?_)
          refine lv_iload hx hb dL_follows_109 (lv_at hl 6 rfl) ?_
          refine lv_iload hx hb dL_follows_111 (lv_at hl 9 rfl) ?_
          refine lv_ishr hx hb dL_follows_113 ?_
          refine lv_iconst (v := 1) hx hb dL_follows_114 (by decide) ?_
          refine lv_iand hx hb dL_follows_115 ?_
          refine lv_i2l hx hb dL_follows_116 rfl ?_
          refine W.lcmp hx hb dL_follows_117 ?_
          refine lv_if_ne (tgt := 125) hx hb dL_follows_118 (by decide) (fun cd166 => ?_) (fun cd166 => ?_)
          · have hw := hw.1 cd166
            refine lv_iconst (v := 0) hx hb dL_follows_125 (by decide) ?_
            refine lv_istore (lv' := [(7, .int (0 : Int32)), (0, .ref (a 0)), (1, .int x1), (2, .int x2), (3, .int x3), (4, .int x4), (5, .int x5), (6, .int x6), (8, .int x8), (9, .int x9)]) hx hb dL_follows_126 hl (by decide) rfl (fun ls hl => ?_)
            refine lv_iinc (v := (x9 + 1)) (lv' := [(9, .int (x9 + 1)), (7, .int (0 : Int32)), (0, .ref (a 0)), (1, .int x1), (2, .int x2), (3, .int x3), (4, .int x4), (5, .int x5), (6, .int x6), (8, .int x8)]) hx hb dL_follows_128 hl (k := 9) rfl rfl (by decide) rfl (fun ls hl => ?_)
            refine lv_goto (tgt := 92) hx hb dL_follows_131 (by decide) ?_
            exact ih _ _ o165 x1 x2 x3 x4 x5 x6 (0 : Int32) x8 (x9 + 1) _ _ _ (by omega) (by omega) (Or.inl rfl) hP hD hS (lv_sub hl [2, 3, 4, 5, 6, 7, 8, 1, 9, 0] rfl) hw
          · have hw := hw.2 cd166
            refine lv_iconst (v := 1) hx hb dL_follows_121 (by decide) ?_
            refine lv_goto (tgt := 126) hx hb dL_follows_122 (by decide) ?_
            refine lv_istore (lv' := [(7, .int (1 : Int32)), (0, .ref (a 0)), (1, .int x1), (2, .int x2), (3, .int x3), (4, .int x4), (5, .int x5), (6, .int x6), (8, .int x8), (9, .int x9)]) hx hb dL_follows_126 hl (by decide) rfl (fun ls hl => ?_)
            refine lv_iinc (v := (x9 + 1)) (lv' := [(9, .int (x9 + 1)), (7, .int (1 : Int32)), (0, .ref (a 0)), (1, .int x1), (2, .int x2), (3, .int x3), (4, .int x4), (5, .int x5), (6, .int x6), (8, .int x8)]) hx hb dL_follows_128 hl (k := 9) rfl rfl (by decide) rfl (fun ls hl => ?_)
            refine lv_goto (tgt := 92) hx hb dL_follows_131 (by decide) ?_
            exact ih _ _ o165 x1 x2 x3 x4 x5 x6 (1 : Int32) x8 (x9 + 1) _ _ _ (by omega) (by omega) (Or.inr rfl) hP hD hS (lv_sub hl [2, 3, 4, 5, 6, 7, 8, 1, 9, 0] rfl) hw
  have J43 : ∀ (k z : Nat) (o : OB) (x1 : Int32) (x2 : Int32) (x3 : Int32) (x4 : Int32) (x5 : Int32) (x6 : Int32) (y0 : Int32) (H : Heap) (locs : List Loc) (ls : Array Slot), k + (283) ≤ 284 → z + 6 * (283) ≤ 1704 → (y0 = 0 ∨ y0 = 1) → va_P (gD G) vwCl (wOB G a o) H → va_D A (wOB G a o) → va_S A s.heap H locs → lv_has ls 14 [(0, .ref (a 0)), (1, .int x1), (2, .int x2), (3, .int x3), (4, .int x4), (5, .int x5), (6, .int x6)] → wj_b_L_follows_43 Q o x1 x2 x3 x4 x5 x6 y0 → W p l e ({ frames := 9, cells := 284, slots := 1704, locals := 158 } : Room) s m ([.ref (a 0), .int a1] : List Value).toArray below meth c H locs k z (MQ below (va_Qi (fun (r : Int32) (u : OB) => (r = 0 ∨ r = 1) ∧ Q r u) (mBk G A (fun (u : OB) => (wOB G a u))) A) ([.ref (a 0), .int a1] : List Value).toArray s 284 1704 A) (F0 m 43 ls [.int y0]) := by
    intro k z o x1 x2 x3 x4 x5 x6 y0 H locs ls hbk hbz hz_y0 hP hD hS hl hw
    unfold wj_b_L_follows_43 at hw
    refine lv_istore (lv' := [(7, .int y0), (0, .ref (a 0)), (1, .int x1), (2, .int x2), (3, .int x3), (4, .int x4), (5, .int x5), (6, .int x6)]) hx hb dL_follows_43 hl (by decide) rfl (fun ls hl => ?_)
    refine lv_aload_n hx hb dL_follows_45 rfl (lv_at hl 1 rfl) ?_
    refine kb_X5_bookBest a o  hw ⟨hx, hb, hml, hown, hts⟩ (cwV 0 hts gL_follows_X5_bookBest rfl rfl rfl (by decide +kernel) ⟨Nat.le_of_ble_eq_true rfl, Nat.le_of_ble_eq_true rfl⟩) hK hG hP hD hS hA hl.1 (Nat.le_of_ble_eq_true rfl) dL_follows_46 ⟨by show _ ≤ 284; omega, by show _ ≤ 1704; omega⟩ (fun r14 o15 H locs hw hP hD hS => ?_)
    refine lv_istore (lv' := [(8, .int r14), (7, .int y0), (0, .ref (a 0)), (1, .int x1), (2, .int x2), (3, .int x3), (4, .int x4), (5, .int x5), (6, .int x6)]) hx hb dL_follows_49 hl (by decide) rfl (fun ls hl => ?_)
    refine lv_iload hx hb dL_follows_51 (lv_at hl 1 rfl) ?_
    refine lv_if_eq (tgt := 86) hx hb dL_follows_53 (by decide) (fun cd16 => ?_) (fun cd16 => ?_)
    · have hw := hw.1 cd16
      refine lv_iconst (v := 0) hx hb dL_follows_86 (by decide) ?_
      refine lv_istore (lv' := [(7, .int (0 : Int32)), (8, .int r14), (0, .ref (a 0)), (1, .int x1), (2, .int x2), (3, .int x3), (4, .int x4), (5, .int x5), (6, .int x6)]) hx hb dL_follows_87 hl (by decide) rfl (fun ls hl => ?_)
      refine lv_iconst (v := 0) hx hb dL_follows_89 (by decide) ?_
      refine lv_istore (lv' := [(9, .int (0 : Int32)), (7, .int (0 : Int32)), (8, .int r14), (0, .ref (a 0)), (1, .int x1), (2, .int x2), (3, .int x3), (4, .int x4), (5, .int x5), (6, .int x6)]) hx hb dL_follows_90 hl (by decide) rfl (fun ls hl => ?_)
      exact J92 15 _ _ o15 x1 x2 x3 x4 x5 x6 (0 : Int32) r14 (0 : Int32) _ _ _ (by omega) (by omega) (Or.inl rfl) hP hD hS (lv_sub hl [3, 4, 5, 6, 7, 8, 9, 1, 2, 0] rfl) hw
    · have hw := hw.2 cd16
      refine lv_aload_n hx hb dL_follows_56 rfl (lv_at hl 2 rfl) ?_
      refine kb_X5_booked a o15  hw ⟨hx, hb, hml, hown, hts⟩ (cwV 0 hts gL_follows_X5_booked rfl rfl rfl (by decide +kernel) ⟨Nat.le_of_ble_eq_true rfl, Nat.le_of_ble_eq_true rfl⟩) hK hG hP hD hS hA hl.1 (Nat.le_of_ble_eq_true rfl) dL_follows_57 ⟨by show _ ≤ 284; omega, by show _ ≤ 1704; omega⟩ (fun r167 o168 H locs hw hP hD hS => ?_)
      refine lv_iload hx hb dL_follows_60 (lv_at hl 0 rfl) ?_
      refine lv_icmp_ne (tgt := 86) hx hb dL_follows_62 (by decide) (fun cd169 => ?_) (fun cd169 => ?_)
      · have hw := hw.1 cd169
        refine lv_iconst (v := 0) hx hb dL_follows_86 (by decide) ?_
        refine lv_istore (lv' := [(7, .int (0 : Int32)), (8, .int r14), (0, .ref (a 0)), (1, .int x1), (2, .int x2), (3, .int x3), (4, .int x4), (5, .int x5), (6, .int x6)]) hx hb dL_follows_87 hl (by decide) rfl (fun ls hl => ?_)
        refine lv_iconst (v := 0) hx hb dL_follows_89 (by decide) ?_
        refine lv_istore (lv' := [(9, .int (0 : Int32)), (7, .int (0 : Int32)), (8, .int r14), (0, .ref (a 0)), (1, .int x1), (2, .int x2), (3, .int x3), (4, .int x4), (5, .int x5), (6, .int x6)]) hx hb dL_follows_90 hl (by decide) rfl (fun ls hl => ?_)
        exact J92 15 _ _ o168 x1 x2 x3 x4 x5 x6 (0 : Int32) r14 (0 : Int32) _ _ _ (by omega) (by omega) (Or.inl rfl) hP hD hS (lv_sub hl [3, 4, 5, 6, 7, 8, 9, 1, 2, 0] rfl) hw
      · have hw := hw.2 cd169
        refine lv_aload_n hx hb dL_follows_65 rfl (lv_at hl 2 rfl) ?_
        refine kb_X5_bookedFame a o168  hw ⟨hx, hb, hml, hown, hts⟩ (cwV 0 hts gL_follows_X5_bookedFame rfl rfl rfl (by decide +kernel) ⟨Nat.le_of_ble_eq_true rfl, Nat.le_of_ble_eq_true rfl⟩) hK hG hP hD hS hA hl.1 (Nat.le_of_ble_eq_true rfl) dL_follows_66 ⟨by show _ ≤ 284; omega, by show _ ≤ 1704; omega⟩ (fun r170 o171 H locs hw hP hD hS => ?_)
        refine lv_iload_n hx hb dL_follows_69 rfl (lv_at hl 5 rfl) ?_
        refine lv_icmp_ne (tgt := 86) hx hb dL_follows_70 (by decide) (fun cd172 => ?_) (fun cd172 => ?_)
        · have hw := hw.1 cd172
          refine lv_iconst (v := 0) hx hb dL_follows_86 (by decide) ?_
          refine lv_istore (lv' := [(7, .int (0 : Int32)), (8, .int r14), (0, .ref (a 0)), (1, .int x1), (2, .int x2), (3, .int x3), (4, .int x4), (5, .int x5), (6, .int x6)]) hx hb dL_follows_87 hl (by decide) rfl (fun ls hl => ?_)
          refine lv_iconst (v := 0) hx hb dL_follows_89 (by decide) ?_
          refine lv_istore (lv' := [(9, .int (0 : Int32)), (7, .int (0 : Int32)), (8, .int r14), (0, .ref (a 0)), (1, .int x1), (2, .int x2), (3, .int x3), (4, .int x4), (5, .int x5), (6, .int x6)]) hx hb dL_follows_90 hl (by decide) rfl (fun ls hl => ?_)
          exact J92 15 _ _ o171 x1 x2 x3 x4 x5 x6 (0 : Int32) r14 (0 : Int32) _ _ _ (by omega) (by omega) (Or.inl rfl) hP hD hS (lv_sub hl [3, 4, 5, 6, 7, 8, 9, 1, 2, 0] rfl) hw
        · have hw := hw.2 cd172
          refine lv_aload_n hx hb dL_follows_73 rfl (lv_at hl 2 rfl) ?_
          refine kb_X5_bestChoice a o171  hw ⟨hx, hb, hml, hown, hts⟩ (cwV 0 hts gL_follows_X5_bestChoice rfl rfl rfl (by decide +kernel) ⟨Nat.le_of_ble_eq_true rfl, Nat.le_of_ble_eq_true rfl⟩) hK hG hP hD hS hA hl.1 (Nat.le_of_ble_eq_true rfl) dL_follows_74 ⟨by show _ ≤ 284; omega, by show _ ≤ 1704; omega⟩ (fun r173 o174 H locs hw hP hD hS => ?_)
          refine lv_iload hx hb dL_follows_77 (lv_at hl 8 rfl) ?_
          refine lv_icmp_ne (tgt := 86) hx hb dL_follows_79 (by decide) (fun cd175 => ?_) (fun cd175 => ?_)
          · have hw := hw.1 cd175
            refine lv_iconst (v := 0) hx hb dL_follows_86 (by decide) ?_
            refine lv_istore (lv' := [(7, .int (0 : Int32)), (8, .int r14), (0, .ref (a 0)), (1, .int x1), (2, .int x2), (3, .int x3), (4, .int x4), (5, .int x5), (6, .int x6)]) hx hb dL_follows_87 hl (by decide) rfl (fun ls hl => ?_)
            refine lv_iconst (v := 0) hx hb dL_follows_89 (by decide) ?_
            refine lv_istore (lv' := [(9, .int (0 : Int32)), (7, .int (0 : Int32)), (8, .int r14), (0, .ref (a 0)), (1, .int x1), (2, .int x2), (3, .int x3), (4, .int x4), (5, .int x5), (6, .int x6)]) hx hb dL_follows_90 hl (by decide) rfl (fun ls hl => ?_)
            exact J92 15 _ _ o174 x1 x2 x3 x4 x5 x6 (0 : Int32) r14 (0 : Int32) _ _ _ (by omega) (by omega) (Or.inl rfl) hP hD hS (lv_sub hl [3, 4, 5, 6, 7, 8, 9, 1, 2, 0] rfl) hw
          · have hw := hw.2 cd175
            refine lv_iconst (v := 1) hx hb dL_follows_82 (by decide) ?_
            refine lv_goto (tgt := 87) hx hb dL_follows_83 (by decide) ?_
            refine lv_istore (lv' := [(7, .int (1 : Int32)), (8, .int r14), (0, .ref (a 0)), (1, .int x1), (2, .int x2), (3, .int x3), (4, .int x4), (5, .int x5), (6, .int x6)]) hx hb dL_follows_87 hl (by decide) rfl (fun ls hl => ?_)
            refine lv_iconst (v := 0) hx hb dL_follows_89 (by decide) ?_
            refine lv_istore (lv' := [(9, .int (0 : Int32)), (7, .int (1 : Int32)), (8, .int r14), (0, .ref (a 0)), (1, .int x1), (2, .int x2), (3, .int x3), (4, .int x4), (5, .int x5), (6, .int x6)]) hx hb dL_follows_90 hl (by decide) rfl (fun ls hl => ?_)
            exact J92 15 _ _ o174 x1 x2 x3 x4 x5 x6 (1 : Int32) r14 (0 : Int32) _ _ _ (by omega) (by omega) (Or.inr rfl) hP hD hS (lv_sub hl [3, 4, 5, 6, 7, 8, 9, 1, 2, 0] rfl) hw
  unfold wb_L_follows at hw
  refine lv_aload_n hx hb dL_follows_0 rfl (lv_at hl 0 rfl) ?_
  refine kb_X5_rehearsals a o  hw ⟨hx, hb, hml, hown, hts⟩ (cwV 0 hts gL_follows_X5_rehearsals rfl rfl rfl (by decide +kernel) ⟨Nat.le_of_ble_eq_true rfl, Nat.le_of_ble_eq_true rfl⟩) hK hG hP hD hS hA hl.1 (Nat.le_of_ble_eq_true rfl) dL_follows_1 ⟨by show _ ≤ 284; omega, by show _ ≤ 1704; omega⟩ (fun r1 o2 H locs hw hP hD hS => ?_)
  refine lv_istore_n (lv' := [(2, .int r1), (0, .ref (a 0)), (1, .int a1)]) hx hb dL_follows_4 rfl hl (by decide) rfl (fun ls hl => ?_)
  refine lv_aload_n hx hb dL_follows_5 rfl (lv_at hl 1 rfl) ?_
  refine kb_X5_bestByTable a o2  hw ⟨hx, hb, hml, hown, hts⟩ (cwV 0 hts gL_follows_X5_bestByTable rfl rfl rfl (by decide +kernel) ⟨Nat.le_of_ble_eq_true rfl, Nat.le_of_ble_eq_true rfl⟩) hK hG hP hD hS hA hl.1 (Nat.le_of_ble_eq_true rfl) dL_follows_6 ⟨by show _ ≤ 284; omega, by show _ ≤ 1704; omega⟩ (fun r3 o4 H locs hw hP hD hS => ?_)
  refine lv_istore_n (lv' := [(3, .int r3), (2, .int r1), (0, .ref (a 0)), (1, .int a1)]) hx hb dL_follows_9 rfl hl (by decide) rfl (fun ls hl => ?_)
  refine lv_aload_n hx hb dL_follows_10 rfl (lv_at hl 2 rfl) ?_
  refine kb_X5_bookedFame a o4  hw ⟨hx, hb, hml, hown, hts⟩ (cwV 0 hts gL_follows_X5_bookedFame rfl rfl rfl (by decide +kernel) ⟨Nat.le_of_ble_eq_true rfl, Nat.le_of_ble_eq_true rfl⟩) hK hG hP hD hS hA hl.1 (Nat.le_of_ble_eq_true rfl) dL_follows_11 ⟨by show _ ≤ 284; omega, by show _ ≤ 1704; omega⟩ (fun r5 o6 H locs hw hP hD hS => ?_)
  refine lv_istore (lv' := [(4, .int r5), (3, .int r3), (2, .int r1), (0, .ref (a 0)), (1, .int a1)]) hx hb dL_follows_14 hl (by decide) rfl (fun ls hl => ?_)
  refine lv_aload_n hx hb dL_follows_16 rfl (lv_at hl 3 rfl) ?_
  refine kb_X5_conflictsByPairs a o6  hw ⟨hx, hb, hml, hown, hts⟩ (cwV 0 hts gL_follows_X5_conflictsByPairs rfl rfl rfl (by decide +kernel) ⟨Nat.le_of_ble_eq_true rfl, Nat.le_of_ble_eq_true rfl⟩) hK hG hP hD hS hA hl.1 (Nat.le_of_ble_eq_true rfl) dL_follows_17 ⟨by show _ ≤ 284; omega, by show _ ≤ 1704; omega⟩ (fun r7 o8 H locs hw hP hD hS => ?_)
  refine lv_istore (lv' := [(5, .int r7), (4, .int r5), (3, .int r3), (2, .int r1), (0, .ref (a 0)), (1, .int a1)]) hx hb dL_follows_20 hl (by decide) rfl (fun ls hl => ?_)
  refine lv_aload_n hx hb dL_follows_22 rfl (lv_at hl 4 rfl) ?_
  refine kb_X5_bestChoice a o8  hw ⟨hx, hb, hml, hown, hts⟩ (cwV 0 hts gL_follows_X5_bestChoice rfl rfl rfl (by decide +kernel) ⟨Nat.le_of_ble_eq_true rfl, Nat.le_of_ble_eq_true rfl⟩) hK hG hP hD hS hA hl.1 (Nat.le_of_ble_eq_true rfl) dL_follows_23 ⟨by show _ ≤ 284; omega, by show _ ≤ 1704; omega⟩ (fun r9 o10 H locs hw hP hD hS => ?_)
  refine lv_istore (lv' := [(6, .int r9), (5, .int r7), (4, .int r5), (3, .int r3), (2, .int r1), (0, .ref (a 0)), (1, .int a1)]) hx hb dL_follows_26 hl (by decide) rfl (fun ls hl => ?_)
  refine lv_aload_n hx hb dL_follows_28 rfl (lv_at hl 5 rfl) ?_
  refine lv_iconst (v := 1) hx hb dL_follows_29 (by decide) ?_
  refine kI_l (kr_SW [] ⟨hx, hb, hml, hown, hts⟩ (cb_L_keep l hst G a o10 (1 : Int32) hw H.size) (vx_cwSW 2 hts gL_follows_L_keep rfl rfl rfl (by decide +kernel) ⟨Nat.le_of_ble_eq_true rfl, Nat.le_of_ble_eq_true rfl⟩) hK hG hP hD hS hA (List.range 51) nd51 (rg51 G a _) rfl hl.1 rfl (Nat.le_of_ble_eq_true rfl) dL_follows_30 ⟨by show _ ≤ 284; omega, by show _ ≤ 1704; omega⟩) hP hD hS hA (fun r11 o12 H locs hw hP hD hS => ?_)
  refine lv_lconst (v := 0) hx hb dL_follows_33 (by decide) ?_
  refine W.lcmp hx hb dL_follows_34 ?_
  refine lv_if_ne (tgt := 42) hx hb dL_follows_35 (by decide) (fun cd13 => ?_) (fun cd13 => ?_)
  · have hw := hw.1 cd13
    refine lv_iconst (v := 0) hx hb dL_follows_42 (by decide) ?_
    exact J43 _ _ o12 a1 r1 r3 r5 r7 r9 (0 : Int32) _ _ _ (by omega) (by omega) (Or.inl rfl) hP hD hS (lv_sub hl [5, 6, 4, 3, 2, 1, 0] rfl) hw
  · have hw := hw.2 cd13
    refine lv_iconst (v := 1) hx hb dL_follows_38 (by decide) ?_
    refine lv_goto (tgt := 43) hx hb dL_follows_39 (by decide) ?_
    exact J43 _ _ o12 a1 r1 r3 r5 r7 r9 (1 : Int32) _ _ _ (by omega) (by omega) (Or.inr rfl) hP hD hS (lv_sub hl [5, 6, 4, 3, 2, 1, 0] rfl) hw
