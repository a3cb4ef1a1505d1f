set_option maxHeartbeats 16000000 in
set_option maxRecDepth 100000 in
theorem cb_L_in (l : Launch) (hst : l.stackTraces = false) (G : mG) (a0 : Int64) (a2 : Int64) (a4 : Int64) {Q : Int32 → Prop} (hw : wb_L_in a0 a2 a4 Q) (sz : Nat) :
    Met l yL_in wsL_in ({ frames := 0, cells := 0, slots := 0, locals := 0 } : Room) (va_Pc [.long a0, .long a2, .long a4] (mPre G ([] : va_W) sz)) (va_Qi (fun (r : Int32) (u : Unit) => (r = 0 ∨ r = 1) ∧ Q r) (mBk G (va_A ([] : va_W) sz) (fun (u : Unit) => ([] : va_W))) (va_A ([] : va_W) sz)) 0 0 (va_A ([] : va_W) sz) := by
  refine ms_i (cc := cL_in) (maxL := 6) (ret := some .boolean) (post := (fun (r : Int32) (u : Unit) => (r = 0 ∨ r = 1) ∧ Q r)) (w1 := (fun (u : Unit) => ([] : va_W))) (by decide) rfl (Nat.le_of_ble_eq_true rfl) ?_ sz
  intro p e s m below meth c A ls H locs hx hb hr hml hown hts hlocks hK hG hP hD hS hA hl
  have hown : s.vm.findClass RL = some m.cls := hown
  have hl : lv_has ls 6 [(0, .long a0), (2, .long a2), (4, .long a4)] := hl
  unfold wb_L_in at hw
  refine lv_lload_n hx hb dL_in_0 rfl (lv_at hl 0 rfl) ?_
  refine lv_lload_n hx hb dL_in_1 rfl (lv_at hl 1 rfl) ?_
  refine W.lcmp hx hb dL_in_2 ?_
  refine lv_if_lt (tgt := 17) hx hb dL_in_3 (by decide) (fun cd1 => ?_) (fun cd1 => ?_)
  · have hw := hw.1 cd1
    refine lv_iconst (v := 0) hx hb dL_in_17 (by decide) ?_
    refine W.widen (k := 0) (n := 0) (by omega) (by omega) ?_
    exact fin_z () hx hb hr (nz (Or.inl rfl)) hlocks hK hS hP hD ⟨(Or.inl rfl), hw⟩ dL_in_18
  · have hw := hw.2 cd1
    refine lv_lload_n hx hb dL_in_6 rfl (lv_at hl 0 rfl) ?_
    refine lv_lload hx hb dL_in_7 (lv_at hl 2 rfl) ?_
    refine W.lcmp hx hb dL_in_9 ?_
    refine lv_if_gt (tgt := 17) hx hb dL_in_10 (by decide) (fun cd2 => ?_) (fun cd2 => ?_)
    · have hw := hw.1 cd2
      refine lv_iconst (v := 0) hx hb dL_in_17 (by decide) ?_
      refine W.widen (k := 0) (n := 0) (by omega) (by omega) ?_
      exact fin_z () hx hb hr (nz (Or.inl rfl)) hlocks hK hS hP hD ⟨(Or.inl rfl), hw⟩ dL_in_18
    · have hw := hw.2 cd2
      refine lv_iconst (v := 1) hx hb dL_in_13 (by decide) ?_
      refine lv_goto (tgt := 18) hx hb dL_in_14 (by decide) ?_
      refine W.widen (k := 0) (n := 0) (by omega) (by omega) ?_
      exact fin_z () hx hb hr (nz (Or.inr rfl)) hlocks hK hS hP hD ⟨(Or.inr rfl), hw⟩ dL_in_18
set_option maxHeartbeats 16000000 in
set_option maxRecDepth 100000 in
theorem cb_L_number (l : Launch) (hst : l.stackTraces = false) (G : mG) (a : Nat → Nat) (o : OB) (a1 : Int32) {Q : Int32 → OB → Prop} (hw : wb_L_number o a1 Q) (sz : Nat) :
    Met l yL_number wsL_number ({ frames := 8, cells := 2, slots := 12, locals := 133 } : Room) (va_Pc [.ref (a 0), .int a1] (mPre G (wOB G a o) sz)) (va_Qi (fun (r : Int32) (u : OB) => (r = 0 ∨ r = 1) ∧ Q r u) (mBk G (va_A (wOB G a o) sz) (fun (u : OB) => (wOB G a u))) (va_A (wOB G a o) sz)) 2 12 (va_A (wOB G a o) sz) := by
  refine ms_i (cc := cL_number) (maxL := 2) (ret := some .boolean) (post := (fun (r : Int32) (u : OB) => (r = 0 ∨ r = 1) ∧ Q r u)) (w1 := (fun (u : OB) => (wOB G a u))) (by decide) rfl (Nat.le_of_ble_eq_true rfl) ?_ sz
  intro p e s m below meth c A ls H locs hx hb hr hml hown hts hlocks hK hG hP hD hS hA hl
  have hown : s.vm.findClass RL = some m.cls := hown
  have hl : lv_has ls 2 [(0, .ref (a 0)), (1, .int a1)] := hl
  have J22 : ∀ (k z : Nat) (o : OB) (x1 : Int32) (H : Heap) (locs : List Loc) (ls : Array Slot), k + (1) ≤ 2 → z + 6 * (1) ≤ 12 → va_P (gD G) vwCl (wOB G a o) H → va_D A (wOB G a o) → va_S A s.heap H locs → lv_has ls 2 [(0, .ref (a 0)), (1, .int x1)] → wj_b_L_number_22 Q o x1 → W p l e ({ frames := 8, cells := 2, slots := 12, locals := 133 } : Room) s m ([.ref (a 0), .int a1] : List Value).toArray below meth c H locs k z (MQ below (va_Qi (fun (r : Int32) (u : OB) => (r = 0 ∨ r = 1) ∧ Q r u) (mBk G A (fun (u : OB) => (wOB G a u))) A) ([.ref (a 0), .int a1] : List Value).toArray s 2 12 A) (F0 m 22 ls []) := by
    intro k z o x1 H locs ls hbk hbz hP hD hS hl hw
    unfold wj_b_L_number_22 at hw
    refine lv_aload_n hx hb dL_number_22 rfl (lv_at hl 0 rfl) ?_
    refine lv_bipush (v := 48) hx hb dL_number_23 (by decide) ?_
    refine lv_iload_n hx hb dL_number_25 rfl (lv_at hl 1 rfl) ?_
    refine lv_bipush (v := 10) hx hb dL_number_26 (by decide) ?_
    refine lv_irem hx hb dL_number_28 (by decide) ?_
    refine lv_iadd hx hb dL_number_29 ?_
    refine kI_l (kr_SW [] ⟨hx, hb, hml, hown, hts⟩ (cb_L_append l hst G a o ((48 : Int32) + (x1 - x1 / (10 : Int32) * (10 : Int32))) hw H.size) (vx_cwSW 2 hts gL_number_L_append rfl rfl rfl (by decide +kernel) ⟨Nat.le_of_ble_eq_true rfl, Nat.le_of_ble_eq_true rfl⟩) hK hG hP hD hS hA (List.range 51) nd51 (rg51 G a _) rfl hl.1 rfl (Nat.le_of_ble_eq_true rfl) dL_number_30 ⟨by show _ ≤ 2; omega, by show _ ≤ 12; omega⟩) hP hD hS hA (fun r2 o3 H locs hw hP hD hS => ?_)
    refine lv_lconst (v := 0) hx hb dL_number_33 (by decide) ?_
    refine W.lcmp hx hb dL_number_34 ?_
    refine lv_if_le (tgt := 42) hx hb dL_number_35 (by decide) (fun cd4 => ?_) (fun cd4 => ?_)
    · have hw := hw.1 cd4
      refine lv_iconst (v := 0) hx hb dL_number_42 (by decide) ?_
      refine W.widen (k := 2) (n := 12) (by omega) (by omega) ?_
      exact fin_z o3 hx hb hr (nz (Or.inl rfl)) hlocks hK hS hP hD ⟨(Or.inl rfl), hw⟩ dL_number_43
    · have hw := hw.2 cd4
      refine lv_iconst (v := 1) hx hb dL_number_38 (by decide) ?_
      refine lv_goto (tgt := 43) hx hb dL_number_39 (by decide) ?_
      refine W.widen (k := 2) (n := 12) (by omega) (by omega) ?_
      exact fin_z o3 hx hb hr (nz (Or.inr rfl)) hlocks hK hS hP hD ⟨(Or.inr rfl), hw⟩ dL_number_43
  unfold wb_L_number at hw
  refine lv_iload_n hx hb dL_number_0 rfl (lv_at hl 1 rfl) ?_
  refine lv_bipush (v := 10) hx hb dL_number_1 (by decide) ?_
  refine lv_icmp_lt (tgt := 22) hx hb dL_number_3 (by decide) (fun cd1 => ?_) (fun cd1 => ?_)
  · have hw := hw.1 cd1
    exact J22 _ _ o a1 _ _ _ (by omega) (by omega) hP hD hS hl hw
  · have hw := hw.2 cd1
    refine lv_aload_n hx hb dL_number_6 rfl (lv_at hl 0 rfl) ?_
    refine lv_bipush (v := 48) hx hb dL_number_7 (by decide) ?_
    refine lv_iload_n hx hb dL_number_9 rfl (lv_at hl 1 rfl) ?_
    refine lv_bipush (v := 10) hx hb dL_number_10 (by decide) ?_
    refine lv_idiv hx hb dL_number_12 (by decide) ?_
    refine lv_iadd hx hb dL_number_13 ?_
    refine kI_l (kr_SW [] ⟨hx, hb, hml, hown, hts⟩ (cb_L_append l hst G a o ((48 : Int32) + (a1 / (10 : Int32))) hw H.size) (vx_cwSW 2 hts gL_number_L_append rfl rfl rfl (by decide +kernel) ⟨Nat.le_of_ble_eq_true rfl, Nat.le_of_ble_eq_true rfl⟩) hK hG hP hD hS hA (List.range 51) nd51 (rg51 G a _) rfl hl.1 rfl (Nat.le_of_ble_eq_true rfl) dL_number_14 ⟨by show _ ≤ 2; omega, by show _ ≤ 12; omega⟩) hP hD hS hA (fun r5 o6 H locs hw hP hD hS => ?_)
    refine lv_lconst (v := 0) hx hb dL_number_17 (by decide) ?_
    refine W.lcmp hx hb dL_number_18 ?_
    refine lv_if_le (tgt := 42) hx hb dL_number_19 (by decide) (fun cd7 => ?_) (fun cd7 => ?_)
    · have hw := hw.1 cd7
      refine lv_iconst (v := 0) hx hb dL_number_42 (by decide) ?_
      refine W.widen (k := 2) (n := 12) (by omega) (by omega) ?_
      exact fin_z o6 hx hb hr (nz (Or.inl rfl)) hlocks hK hS hP hD ⟨(Or.inl rfl), hw⟩ dL_number_43
    · have hw := hw.2 cd7
      exact J22 _ _ o6 a1 _ _ _ (by omega) (by omega) hP hD hS hl hw
set_option maxRecDepth 100000 in
theorem k_L_told_c203 : Cond.constantLong RL 203 (-1) ∈ wsL_told := by decide +kernel
set_option maxHeartbeats 16000000 in
set_option maxRecDepth 100000 in
theorem cb_L_told (l : Launch) (hst : l.stackTraces = false) (G : mG) (a : Nat → Nat) (o : OB) (a1 : Int32) {Q : Int64 → OB → Prop} (hw : wb_L_told o a1 Q) (sz : Nat) :
    Met l yL_told wsL_told ({ frames := 9, cells := 46, slots := 276, locals := 154 } : Room) (va_Pc [.ref (a 0), .int a1] (mPre G (wOB G a o) sz)) (va_Ql (fun (r : Int64) (u : OB) => Q r u) (mBk G (va_A (wOB G a o) sz) (fun (u : OB) => (wOB G a u))) (va_A (wOB G a o) sz)) 46 276 (va_A (wOB G a o) sz) := by
  refine ms_l (cc := cL_told) (maxL := 6) (ret := some .long) (post := (fun (r : Int64) (u : OB) => Q r u)) (w1 := (fun (u : OB) => (wOB G a u))) (by decide) rfl (Nat.le_of_ble_eq_true rfl) ?_ sz
  intro p e s m below meth c A ls H locs hx hb hr hml hown hts hlocks hK hG hP hD hS hA hl
  have hown : s.vm.findClass RL = some m.cls := hown
  have hl : lv_has ls 6 [(0, .ref (a 0)), (1, .int a1)] := hl
  have J135 : ∀ (k z : Nat) (o : OB) (x1 : Int32) (x2 : Int32) (x3 : Int32) (H : Heap) (locs : List Loc) (ls : Array Slot), k + (1) ≤ 46 → z + 6 * (1) ≤ 276 → (x2 = 0 ∨ x2 = 1) → va_P (gD G) vwCl (wOB G a o) H → va_D A (wOB G a o) → va_S A s.heap H locs → lv_has ls 6 [(0, .ref (a 0)), (1, .int x1), (2, .int x2), (3, .int x3)] → wj_b_L_told_135 Q o x1 x2 x3 → W p l e ({ frames := 9, cells := 46, slots := 276, locals := 154 } : Room) s m ([.ref (a 0), .int a1] : List Value).toArray below meth c H locs k z (MQ below (va_Ql (fun (r : Int64) (u : OB) => Q r u) (mBk G A (fun (u : OB) => (wOB G a u))) A) ([.ref (a 0), .int a1] : List Value).toArray s 46 276 A) (F0 m 135 ls []) := by
    intro k z o x1 x2 x3 H locs ls hbk hbz hz_x2 hP hD hS hl hw
    unfold wj_b_L_told_135 at hw
    refine lv_iload_n hx hb dL_told_135 rfl (lv_at hl 2 rfl) ?_
    refine lv_if_eq (tgt := 146) hx hb dL_told_136 (by decide) (fun cd5 => ?_) (fun cd5 => ?_)
    · have hw := hw.1 cd5
      refine lv_ldc2 (v := -1) hx hb hown (hts _ k_L_told_c203) dL_told_146 ?_
      refine W.widen (k := 46) (n := 276) (by omega) (by omega) ?_
      exact fin_l o hx hb hr hlocks hK hS hP hD hw dL_told_149
    · have hw := hw.2 cd5
      refine lv_aload_n hx hb dL_told_139 rfl (lv_at hl 0 rfl) ?_
      refine kI_l (kr_SW [] ⟨hx, hb, hml, hown, hts⟩ (cb_L_read l hst G a o hw H.size) (vx_cwSW 1 hts gL_told_L_read rfl rfl rfl (by decide +kernel) ⟨Nat.le_of_ble_eq_true rfl, Nat.le_of_ble_eq_true rfl⟩) hK hG hP hD hS hA (List.range 51) nd51 (rg51 G a _) rfl hl.1 rfl (Nat.le_of_ble_eq_true rfl) dL_told_140 ⟨by show _ ≤ 46; omega, by show _ ≤ 276; omega⟩) hP hD hS hA (fun r6 o7 H locs hw hP hD hS => ?_)
      refine lv_goto (tgt := 149) hx hb dL_told_143 (by decide) ?_
      refine W.widen (k := 46) (n := 276) (by omega) (by omega) ?_
      exact fin_l o7 hx hb hr hlocks hK hS hP hD hw dL_told_149
  have J55 : ∀ (k15 : OB → Int32 → Int32 → Int32 → Prop) (nn15 : Nat) (hk15 : ∀ (k z : Nat) (o : OB) (x1 : Int32) (x2 : Int32) (x3 : Int32) (H : Heap) (locs : List Loc) (ls : Array Slot), k + nn15 ≤ 46 → z + 6 * nn15 ≤ 276 → (x2 = 0 ∨ x2 = 1) → va_P (gD G) vwCl (wOB G a o) H → va_D A (wOB G a o) → va_S A s.heap H locs → lv_has ls 6 [(0, .ref (a 0)), (1, .int x1), (2, .int x2), (3, .int x3)] → k15 o x1 x2 x3 → W p l e ({ frames := 9, cells := 46, slots := 276, locals := 154 } : Room) s m ([.ref (a 0), .int a1] : List Value).toArray below meth c H locs k z (MQ below (va_Ql (fun (r : Int64) (u : OB) => Q r u) (mBk G A (fun (u : OB) => (wOB G a u))) A) ([.ref (a 0), .int a1] : List Value).toArray s 46 276 A) (F0 m 15 ls [])) (k z : Nat) (o : OB) (x1 : Int32) (x2 : Int32) (x3 : Int32) (x4 : Int32) (x5 : Int32) (H : Heap) (locs : List Loc) (ls : Array Slot), k + (8 + nn15) ≤ 46 → z + 6 * (8 + nn15) ≤ 276 → (x2 = 0 ∨ x2 = 1) → va_P (gD G) vwCl (wOB G a o) H → va_D A (wOB G a o) → va_S A s.heap H locs → lv_has ls 6 [(0, .ref (a 0)), (1, .int x1), (2, .int x2), (3, .int x3), (4, .int x4), (5, .int x5)] → wj_b_L_told_55 Q k15 o x1 x2 x3 x4 x5 → W p l e ({ frames := 9, cells := 46, slots := 276, locals := 154 } : Room) s m ([.ref (a 0), .int a1] : List Value).toArray below meth c H locs k z (MQ below (va_Ql (fun (r : Int64) (u : OB) => Q r u) (mBk G A (fun (u : OB) => (wOB G a u))) A) ([.ref (a 0), .int a1] : List Value).toArray s 46 276 A) (F0 m 55 ls []) := by
    intro k15 nn15 hk15 k z o x1 x2 x3 x4 x5 H locs ls hbk hbz hz_x2 hP hD hS hl hw
    unfold wj_b_L_told_55 at hw
    refine lv_aload_n hx hb dL_told_55 rfl (lv_at hl 0 rfl) ?_
    refine lv_iload hx hb dL_told_56 (lv_at hl 5 rfl) ?_
    refine kI_i (kr_S [] ⟨hx, hb, hml, hown, hts⟩ (cb_L_number l hst G a o x5 hw H.size) (va_cwS 2 hts gL_told_L_number rfl rfl rfl (by decide +kernel) ⟨Nat.le_of_ble_eq_true rfl, Nat.le_of_ble_eq_true rfl⟩) hK hG hP hD hS hA (List.range 51) nd51 (rg51 G a _) rfl hl.1 rfl (Nat.le_of_ble_eq_true rfl) dL_told_58 ⟨by show _ ≤ 46; omega, by show _ ≤ 276; omega⟩) hP hD hS hA (fun r11 o12 H locs hw hP hD hS => ?_)
    obtain ⟨hz_r11, hw⟩ := hw
    refine lv_if_eq (tgt := 127) hx hb dL_told_61 (by decide) (fun cd13 => ?_) (fun cd13 => ?_)
    · have hw := hw.1 cd13
      refine lv_iconst (v := 0) hx hb dL_told_127 (by decide) ?_
      refine lv_istore_n (lv' := [(2, .int (0 : Int32)), (0, .ref (a 0)), (1, .int x1), (3, .int x3), (4, .int x4), (5, .int x5)]) hx hb dL_told_128 rfl hl (by decide) rfl (fun ls hl => ?_)
      refine lv_iinc (v := (x3 + 1)) (lv' := [(3, .int (x3 + 1)), (2, .int (0 : Int32)), (0, .ref (a 0)), (1, .int x1), (4, .int x4), (5, .int x5)]) hx hb dL_told_129 hl (k := 3) rfl rfl (by decide) rfl (fun ls hl => ?_)
      refine lv_goto (tgt := 15) hx hb dL_told_132 (by decide) ?_
      exact hk15 _ _ o12 x1 (0 : Int32) (x3 + 1) _ _ _ (by omega) (by omega) (Or.inl rfl) hP hD hS (lv_sub hl [2, 3, 1, 0] rfl) hw
    · have hw := hw.2 cd13
      refine lv_aload_n hx hb dL_told_64 rfl (lv_at hl 0 rfl) ?_
      refine lv_bipush (v := 45) hx hb dL_told_65 (by decide) ?_
      refine kI_l (kr_SW [] ⟨hx, hb, hml, hown, hts⟩ (cb_L_append l hst G a o12 (45 : Int32) hw H.size) (vx_cwSW 2 hts gL_told_L_append rfl rfl rfl (by decide +kernel) ⟨Nat.le_of_ble_eq_true rfl, Nat.le_of_ble_eq_true rfl⟩) hK hG hP hD hS hA (List.range 51) nd51 (rg51 G a _) rfl hl.1 rfl (Nat.le_of_ble_eq_true rfl) dL_told_67 ⟨by show _ ≤ 46; omega, by show _ ≤ 276; omega⟩) hP hD hS hA (fun r14 o15 H locs hw hP hD hS => ?_)
      refine lv_lconst (v := 0) hx hb dL_told_70 (by decide) ?_
      refine W.lcmp hx hb dL_told_71 ?_
      refine lv_if_le (tgt := 127) hx hb dL_told_72 (by decide) (fun cd16 => ?_) (fun cd16 => ?_)
      · have hw := hw.1 cd16
        refine lv_iconst (v := 0) hx hb dL_told_127 (by decide) ?_
        refine lv_istore_n (lv' := [(2, .int (0 : Int32)), (0, .ref (a 0)), (1, .int x1), (3, .int x3), (4, .int x4), (5, .int x5)]) hx hb dL_told_128 rfl hl (by decide) rfl (fun ls hl => ?_)
        refine lv_iinc (v := (x3 + 1)) (lv' := [(3, .int (x3 + 1)), (2, .int (0 : Int32)), (0, .ref (a 0)), (1, .int x1), (4, .int x4), (5, .int x5)]) hx hb dL_told_129 hl (k := 3) rfl rfl (by decide) rfl (fun ls hl => ?_)
        refine lv_goto (tgt := 15) hx hb dL_told_132 (by decide) ?_
        exact hk15 _ _ o15 x1 (0 : Int32) (x3 + 1) _ _ _ (by omega) (by omega) (Or.inl rfl) hP hD hS (lv_sub hl [2, 3, 1, 0] rfl) hw
      · have hw := hw.2 cd16
        refine lv_aload_n hx hb dL_told_75 rfl (lv_at hl 0 rfl) ?_
        refine lv_iload hx hb dL_told_76 (lv_at hl 5 rfl) ?_
        refine lv_iconst (v := 1) hx hb dL_told_78 (by decide) ?_
        refine lv_iadd hx hb dL_told_79 ?_
        refine lv_iload hx hb dL_told_80 (lv_at hl 4 rfl) ?_
        refine lv_bipush (v := 40) hx hb dL_told_82 (by decide) ?_
        refine lv_idiv hx hb dL_told_84 (by decide) ?_
        refine lv_bipush (v := 9) hx hb dL_told_85 (by decide) ?_
        refine lv_irem hx hb dL_told_87 (by decide) ?_
        refine lv_iadd hx hb dL_told_88 ?_
        refine kI_i (kr_S [] ⟨hx, hb, hml, hown, hts⟩ (cb_L_number l hst G a o15 ((x5 + (1 : Int32)) + ((x4 / (40 : Int32)) - (x4 / (40 : Int32)) / (9 : Int32) * (9 : Int32))) hw H.size) (va_cwS 2 hts gL_told_L_number rfl rfl rfl (by decide +kernel) ⟨Nat.le_of_ble_eq_true rfl, Nat.le_of_ble_eq_true rfl⟩) hK hG hP hD hS hA (List.range 51) nd51 (rg51 G a _) rfl hl.1 rfl (Nat.le_of_ble_eq_true rfl) dL_told_89 ⟨by show _ ≤ 46; omega, by show _ ≤ 276; omega⟩) hP hD hS hA (fun r17 o18 H locs hw hP hD hS => ?_)
        obtain ⟨hz_r17, hw⟩ := hw
        refine lv_if_eq (tgt := 127) hx hb dL_told_92 (by decide) (fun cd19 => ?_) (fun cd19 => ?_)
        · have hw := hw.1 cd19
          refine lv_iconst (v := 0) hx hb dL_told_127 (by decide) ?_
          refine lv_istore_n (lv' := [(2, .int (0 : Int32)), (0, .ref (a 0)), (1, .int x1), (3, .int x3), (4, .int x4), (5, .int x5)]) hx hb dL_told_128 rfl hl (by decide) rfl (fun ls hl => ?_)
          refine lv_iinc (v := (x3 + 1)) (lv' := [(3, .int (x3 + 1)), (2, .int (0 : Int32)), (0, .ref (a 0)), (1, .int x1), (4, .int x4), (5, .int x5)]) hx hb dL_told_129 hl (k := 3) rfl rfl (by decide) rfl (fun ls hl => ?_)
          refine lv_goto (tgt := 15) hx hb dL_told_132 (by decide) ?_
          exact hk15 _ _ o18 x1 (0 : Int32) (x3 + 1) _ _ _ (by omega) (by omega) (Or.inl rfl) hP hD hS (lv_sub hl [2, 3, 1, 0] rfl) hw
        · have hw := hw.2 cd19
          refine lv_aload_n hx hb dL_told_95 rfl (lv_at hl 0 rfl) ?_
          refine lv_bipush (v := 42) hx hb dL_told_96 (by decide) ?_
          refine kI_l (kr_SW [] ⟨hx, hb, hml, hown, hts⟩ (cb_L_append l hst G a o18 (42 : Int32) hw H.size) (vx_cwSW 2 hts gL_told_L_append rfl rfl rfl (by decide +kernel) ⟨Nat.le_of_ble_eq_true rfl, Nat.le_of_ble_eq_true rfl⟩) hK hG hP hD hS hA (List.range 51) nd51 (rg51 G a _) rfl hl.1 rfl (Nat.le_of_ble_eq_true rfl) dL_told_98 ⟨by show _ ≤ 46; omega, by show _ ≤ 276; omega⟩) hP hD hS hA (fun r20 o21 H locs hw hP hD hS => ?_)
          refine lv_lconst (v := 0) hx hb dL_told_101 (by decide) ?_
          refine W.lcmp hx hb dL_told_102 ?_
          refine lv_if_le (tgt := 127) hx hb dL_told_103 (by decide) (fun cd22 => ?_) (fun cd22 => ?_)
          · have hw := hw.1 cd22
            refine lv_iconst (v := 0) hx hb dL_told_127 (by decide) ?_
            refine lv_istore_n (lv' := [(2, .int (0 : Int32)), (0, .ref (a 0)), (1, .int x1), (3, .int x3), (4, .int x4), (5, .int x5)]) hx hb dL_told_128 rfl hl (by decide) rfl (fun ls hl => ?_)
            refine lv_iinc (v := (x3 + 1)) (lv' := [(3, .int (x3 + 1)), (2, .int (0 : Int32)), (0, .ref (a 0)), (1, .int x1), (4, .int x4), (5, .int x5)]) hx hb dL_told_129 hl (k := 3) rfl rfl (by decide) rfl (fun ls hl => ?_)
            refine lv_goto (tgt := 15) hx hb dL_told_132 (by decide) ?_
            exact hk15 _ _ o21 x1 (0 : Int32) (x3 + 1) _ _ _ (by omega) (by omega) (Or.inl rfl) hP hD hS (lv_sub hl [2, 3, 1, 0] rfl) hw
          · have hw := hw.2 cd22
            refine lv_aload_n hx hb dL_told_106 rfl (lv_at hl 0 rfl) ?_
            refine lv_iconst (v := 1) hx hb dL_told_107 (by decide) ?_
            refine lv_iload hx hb dL_told_108 (lv_at hl 4 rfl) ?_
            refine lv_bipush (v := 7) hx hb dL_told_110 (by decide) ?_
            refine lv_idiv hx hb dL_told_112 (by decide) ?_
            refine lv_bipush (v := 50) hx hb dL_told_113 (by decide) ?_
            refine lv_irem hx hb dL_told_115 (by decide) ?_
            refine lv_iadd hx hb dL_told_116 ?_
            refine kI_i (kr_S [] ⟨hx, hb, hml, hown, hts⟩ (cb_L_number l hst G a o21 ((1 : Int32) + ((x4 / (7 : Int32)) - (x4 / (7 : Int32)) / (50 : Int32) * (50 : Int32))) hw H.size) (va_cwS 2 hts gL_told_L_number rfl rfl rfl (by decide +kernel) ⟨Nat.le_of_ble_eq_true rfl, Nat.le_of_ble_eq_true rfl⟩) hK hG hP hD hS hA (List.range 51) nd51 (rg51 G a _) rfl hl.1 rfl (Nat.le_of_ble_eq_true rfl) dL_told_117 ⟨by show _ ≤ 46; omega, by show _ ≤ 276; omega⟩) hP hD hS hA (fun r23 o24 H locs hw hP hD hS => ?_)
            obtain ⟨hz_r23, hw⟩ := hw
            refine lv_if_eq (tgt := 127) hx hb dL_told_120 (by decide) (fun cd25 => ?_) (fun cd25 => ?_)
            · have hw := hw.1 cd25
              refine lv_iconst (v := 0) hx hb dL_told_127 (by decide) ?_
              refine lv_istore_n (lv' := [(2, .int (0 : Int32)), (0, .ref (a 0)), (1, .int x1), (3, .int x3), (4, .int x4), (5, .int x5)]) hx hb dL_told_128 rfl hl (by decide) rfl (fun ls hl => ?_)
              refine lv_iinc (v := (x3 + 1)) (lv' := [(3, .int (x3 + 1)), (2, .int (0 : Int32)), (0, .ref (a 0)), (1, .int x1), (4, .int x4), (5, .int x5)]) hx hb dL_told_129 hl (k := 3) rfl rfl (by decide) rfl (fun ls hl => ?_)
              refine lv_goto (tgt := 15) hx hb dL_told_132 (by decide) ?_
              exact hk15 _ _ o24 x1 (0 : Int32) (x3 + 1) _ _ _ (by omega) (by omega) (Or.inl rfl) hP hD hS (lv_sub hl [2, 3, 1, 0] rfl) hw
            · have hw := hw.2 cd25
              refine lv_iconst (v := 1) hx hb dL_told_123 (by decide) ?_
              refine lv_goto (tgt := 128) hx hb dL_told_124 (by decide) ?_
              refine lv_istore_n (lv' := [(2, .int (1 : Int32)), (0, .ref (a 0)), (1, .int x1), (3, .int x3), (4, .int x4), (5, .int x5)]) hx hb dL_told_128 rfl hl (by decide) rfl (fun ls hl => ?_)
              refine lv_iinc (v := (x3 + 1)) (lv' := [(3, .int (x3 + 1)), (2, .int (1 : Int32)), (0, .ref (a 0)), (1, .int x1), (4, .int x4), (5, .int x5)]) hx hb dL_told_129 hl (k := 3) rfl rfl (by decide) rfl (fun ls hl => ?_)
              refine lv_goto (tgt := 15) hx hb dL_told_132 (by decide) ?_
              exact hk15 _ _ o24 x1 (1 : Int32) (x3 + 1) _ _ _ (by omega) (by omega) (Or.inr rfl) hP hD hS (lv_sub hl [2, 3, 1, 0] rfl) hw
  have J15 : ∀ (n : Nat) (k z : Nat) (o : OB) (x1 : Int32) (x2 : Int32) (x3 : Int32) (H : Heap) (locs : List Loc) (ls : Array Slot), k + (n * 9 + 1) ≤ 46 → z + 6 * (n * 9 + 1) ≤ 276 → (x2 = 0 ∨ x2 = 1) → va_P (gD G) vwCl (wOB G a o) H → va_D A (wOB G a o) → va_S A s.heap H locs → lv_has ls 6 [(0, .ref (a 0)), (1, .int x1), (2, .int x2), (3, .int x3)] → wl_b_L_told_15 Q n o x1 x2 x3 → W p l e ({ frames := 9, cells := 46, slots := 276, locals := 154 } : Room) s m ([.ref (a 0), .int a1] : List Value).toArray below meth c H locs k z (MQ below (va_Ql (fun (r : Int64) (u : OB) => Q r u) (mBk G A (fun (u : OB) => (wOB G a u))) A) ([.ref (a 0), .int a1] : List Value).toArray s 46 276 A) (F0 m 15 ls []) := by
    intro n
    induction n with
    | zero => intro k z o x1 x2 x3 H locs ls hbk hbz hz_x2 hP hD hS hl hw; exact False.elim hw
    | succ n ih =>
      intro k z o x1 x2 x3 H locs ls hbk hbz hz_x2 hP hD hS hl hw
      rw [wl_b_L_told_15] at hw
      refine lv_iload_n hx hb dL_told_15 rfl (lv_at hl 3 rfl) ?_
      refine lv_iconst (v := 1) hx hb dL_told_16 (by decide) ?_
      refine lv_iload_n hx hb dL_told_17 rfl (lv_at hl 1 rfl) ?_
      refine lv_iconst (v := 4) hx hb dL_told_18 (by decide) ?_
      refine lv_irem hx hb dL_told_19 (by decide) ?_
      refine lv_iadd hx hb dL_told_20 ?_
      refine lv_icmp_ge (tgt := 135) hx hb dL_told_21 (by decide) (fun cd4 => ?_) (fun cd4 => ?_)
      · have hw := hw.1 cd4
        exact J135 _ _ o x1 x2 x3 _ _ _ (by omega) (by omega) hz_x2 hP hD hS hl hw
      · have hw := hw.2 cd4
        refine lv_iload_n hx hb dL_told_24 rfl (lv_at hl 2 rfl) ?_
        refine lv_if_eq (tgt := 135) hx hb dL_told_25 (by decide) (fun cd8 => ?_) (fun cd8 => ?_)
        · have hw := hw.1 cd8
          exact J135 _ _ o x1 x2 x3 _ _ _ (by omega) (by omega) hz_x2 hP hD hS hl hw
        · have hw := hw.2 cd8
          refine lv_iload_n hx hb dL_told_28 rfl (lv_at hl 1 rfl) ?_
          refine lv_iload_n hx hb dL_told_29 rfl (lv_at hl 3 rfl) ?_
          refine lv_ishr hx hb dL_told_30 ?_
          refine lv_istore (lv' := [(4, .int (x1 >>> (x3 &&& 31))), (0, .ref (a 0)), (1, .int x1), (2, .int x2), (3, .int x3)]) hx hb dL_told_31 hl (by decide) rfl (fun ls hl => ?_)
          refine lv_iload hx hb dL_told_33 (lv_at hl 0 rfl) ?_
          refine lv_bipush (v := 40) hx hb dL_told_35 (by decide) ?_
          refine lv_irem hx hb dL_told_37 (by decide) ?_
          refine lv_topi (fun v9 ev9 => ?_)
          have hw := hw v9 ev9
          refine lv_istore (lv' := [(5, .int v9), (4, .int (x1 >>> (x3 &&& 31))), (0, .ref (a 0)), (1, .int x1), (2, .int x2), (3, .int x3)]) hx hb dL_told_38 hl (by decide) rfl (fun ls hl => ?_)
          refine lv_iload_n hx hb dL_told_40 rfl (lv_at hl 5 rfl) ?_
          refine lv_if_eq (tgt := 55) hx hb dL_told_41 (by decide) (fun cd10 => ?_) (fun cd10 => ?_)
          · have hw := hw.1 cd10
            exact J55 (fun (z0 : OB) (z1 : Int32) (z2 : Int32) (z3 : Int32) => wl_b_L_told_15 Q n z0 z1 z2 z3) (n * 9 + 1) ih _ _ o x1 x2 x3 (x1 >>> (x3 &&& 31)) v9 _ _ _ (by omega) (by omega) hz_x2 hP hD hS (lv_sub hl [2, 3, 4, 5, 1, 0] rfl) hw
          · have hw := hw.2 cd10
            refine lv_aload_n hx hb dL_told_44 rfl (lv_at hl 2 rfl) ?_
            refine lv_bipush (v := 59) hx hb dL_told_45 (by decide) ?_
            refine kI_l (kr_SW [] ⟨hx, hb, hml, hown, hts⟩ (cb_L_append l hst G a o (59 : Int32) hw H.size) (vx_cwSW 2 hts gL_told_L_append rfl rfl rfl (by decide +kernel) ⟨Nat.le_of_ble_eq_true rfl, Nat.le_of_ble_eq_true rfl⟩) hK hG hP hD hS hA (List.range 51) nd51 (rg51 G a _) rfl hl.1 rfl (Nat.le_of_ble_eq_true rfl) dL_told_47 ⟨by show _ ≤ 46; omega, by show _ ≤ 276; omega⟩) hP hD hS hA (fun r26 o27 H locs hw hP hD hS => ?_)
            refine lv_lconst (v := 0) hx hb dL_told_50 (by decide) ?_
            refine W.lcmp hx hb dL_told_51 ?_
            refine lv_if_le (tgt := 127) hx hb dL_told_52 (by decide) (fun cd28 => ?_) (fun cd28 => ?_)
            · have hw := hw.1 cd28
              refine lv_iconst (v := 0) hx hb dL_told_127 (by decide) ?_
              refine lv_istore_n (lv' := [(2, .int (0 : Int32)), (5, .int v9), (4, .int (x1 >>> (x3 &&& 31))), (0, .ref (a 0)), (1, .int x1), (3, .int x3)]) hx hb dL_told_128 rfl hl (by decide) rfl (fun ls hl => ?_)
              refine lv_iinc (v := (x3 + 1)) (lv' := [(3, .int (x3 + 1)), (2, .int (0 : Int32)), (5, .int v9), (4, .int (x1 >>> (x3 &&& 31))), (0, .ref (a 0)), (1, .int x1)]) hx hb dL_told_129 hl (k := 5) rfl rfl (by decide) rfl (fun ls hl => ?_)
              refine lv_goto (tgt := 15) hx hb dL_told_132 (by decide) ?_
              exact ih _ _ o27 x1 (0 : Int32) (x3 + 1) _ _ _ (by omega) (by omega) (Or.inl rfl) hP hD hS (lv_sub hl [4, 5, 1, 0] rfl) hw
            · have hw := hw.2 cd28
              exact J55 (fun (z0 : OB) (z1 : Int32) (z2 : Int32) (z3 : Int32) => wl_b_L_told_15 Q n z0 z1 z2 z3) (n * 9 + 1) ih _ _ o27 x1 x2 x3 (x1 >>> (x3 &&& 31)) v9 _ _ _ (by omega) (by omega) hz_x2 hP hD hS (lv_sub hl [2, 3, 4, 5, 1, 0] rfl) hw
  unfold wb_L_told at hw
  refine lv_aload_n hx hb dL_told_0 rfl (lv_at hl 0 rfl) ?_
  refine kb_X5_clearBuffer a o  hw ⟨hx, hb, hml, hown, hts⟩ (cwV 0 hts gL_told_X5_clearBuffer rfl rfl rfl (by decide +kernel) ⟨Nat.le_of_ble_eq_true rfl, Nat.le_of_ble_eq_true rfl⟩) hK hG hP hD hS hA hl.1 (Nat.le_of_ble_eq_true rfl) dL_told_1 ⟨by show _ ≤ 46; omega, by show _ ≤ 276; omega⟩ (fun r1 o2 H locs hw hP hD hS => ?_)
  refine lv_if_lt (tgt := 11) hx hb dL_told_4 (by decide) (fun cd3 => ?_) (fun cd3 => ?_)
  · have hw := hw.1 cd3
    refine lv_iconst (v := 0) hx hb dL_told_11 (by decide) ?_
    refine lv_istore_n (lv' := [(2, .int (0 : Int32)), (0, .ref (a 0)), (1, .int a1)]) hx hb dL_told_12 rfl hl (by decide) rfl (fun ls hl => ?_)
    refine lv_iconst (v := 0) hx hb dL_told_13 (by decide) ?_
    refine lv_istore_n (lv' := [(3, .int (0 : Int32)), (2, .int (0 : Int32)), (0, .ref (a 0)), (1, .int a1)]) hx hb dL_told_14 rfl hl (by decide) rfl (fun ls hl => ?_)
    exact J15 5 _ _ o2 a1 (0 : Int32) (0 : Int32) _ _ _ (by omega) (by omega) (Or.inl rfl) hP hD hS (lv_sub hl [2, 3, 1, 0] rfl) hw
  · have hw := hw.2 cd3
    refine lv_iconst (v := 1) hx hb dL_told_7 (by decide) ?_
    refine lv_goto (tgt := 12) hx hb dL_told_8 (by decide) ?_
    refine lv_istore_n (lv' := [(2, .int (1 : Int32)), (0, .ref (a 0)), (1, .int a1)]) hx hb dL_told_12 rfl hl (by decide) rfl (fun ls hl => ?_)
    refine lv_iconst (v := 0) hx hb dL_told_13 (by decide) ?_
    refine lv_istore_n (lv' := [(3, .int (0 : Int32)), (2, .int (1 : Int32)), (0, .ref (a 0)), (1, .int a1)]) hx hb dL_told_14 rfl hl (by decide) rfl (fun ls hl => ?_)
    exact J15 5 _ _ o2 a1 (1 : Int32) (0 : Int32) _ _ _ (by omega) (by omega) (Or.inr rfl) hP hD hS (lv_sub hl [2, 3, 1, 0] rfl) hw
set_option maxHeartbeats 16000000 in
set_option maxRecDepth 100000 in
theorem cb_L_act (l : Launch) (hst : l.stackTraces = false) (G : mG) (a : Nat → Nat) (o : OB) (a1 : Int32) (a2 : Int32) {Q : Int64 → OB → Prop} (hw : wb_L_act o a1 a2 Q) (sz : Nat) :
    Met l yL_act wsL_act ({ frames := 10, cells := 46, slots := 276, locals := 179 } : Room) (va_Pc [.ref (a 0), .int a1, .int a2] (mPre G (wOB G a o) sz)) (va_Ql (fun (r : Int64) (u : OB) => Q r u) (mBk G (va_A (wOB G a o) sz) (fun (u : OB) => (wOB G a u))) (va_A (wOB G a o) sz)) 46 276 (va_A (wOB G a o) sz) := by
  refine ms_l (cc := cL_act) (maxL := 8) (ret := some .long) (post := (fun (r : Int64) (u : OB) => Q r u)) (w1 := (fun (u : OB) => (wOB G a u))) (by decide) rfl (Nat.le_of_ble_eq_true rfl) ?_ sz
  intro p e s m below meth c A ls H locs hx hb hr hml hown hts hlocks hK hG hP hD hS hA hl
  have hown : s.vm.findClass RL = some m.cls := hown
  have hl : lv_has ls 8 [(0, .ref (a 0)), (1, .int a1), (2, .int a2)] := hl
  have J40 : ∀ (k z : Nat) (o : OB) (x1 : Int32) (x2 : Int32) (x3 : Int32) (x4 : Int32) (x5 : Int32) (y0 : Int32) (y1 : Int32) (H : Heap) (locs : List Loc) (ls : Array Slot), k + (46) ≤ 46 → z + 6 * (46) ≤ 276 → va_P (gD G) vwCl (wOB G a o) H → va_D A (wOB G a o) → va_S A s.heap H locs → lv_has ls 8 [(0, .ref (a 0)), (1, .int x1), (2, .int x2), (3, .int x3), (4, .int x4), (5, .int x5)] → wj_b_L_act_40 Q o x1 x2 x3 x4 x5 y0 y1 → W p l e ({ frames := 10, cells := 46, slots := 276, locals := 179 } : Room) s m ([.ref (a 0), .int a1, .int a2] : List Value).toArray below meth c H locs k z (MQ below (va_Ql (fun (r : Int64) (u : OB) => Q r u) (mBk G A (fun (u : OB) => (wOB G a u))) A) ([.ref (a 0), .int a1, .int a2] : List Value).toArray s 46 276 A) (F0 m 40 ls [.int y1, .int y0]) := by
    intro k z o x1 x2 x3 x4 x5 y0 y1 H locs ls hbk hbz hP hD hS hl hw
    unfold wj_b_L_act_40 at hw
    obtain ⟨h6, hw⟩ := hw
    refine lv_irem hx hb dL_act_40 h6 ?_
    refine lv_istore (lv' := [(6, .int (y0 - y0 / y1 * y1)), (0, .ref (a 0)), (1, .int x1), (2, .int x2), (3, .int x3), (4, .int x4), (5, .int x5)]) hx hb dL_act_41 hl (by decide) rfl (fun ls hl => ?_)
    refine lv_iload hx hb dL_act_43 (lv_at hl 0 rfl) ?_
    refine lv_iconst (v := 1) hx hb dL_act_45 (by decide) ?_
    refine lv_iadd hx hb dL_act_46 ?_
    refine lv_iload hx hb dL_act_47 (lv_at hl 6 rfl) ?_
    refine lv_bipush (v := 90) hx hb dL_act_49 (by decide) ?_
    refine lv_idiv hx hb dL_act_51 (by decide) ?_
    refine lv_bipush (v := 6) hx hb dL_act_52 (by decide) ?_
    refine lv_irem hx hb dL_act_54 (by decide) ?_
    refine lv_iadd hx hb dL_act_55 ?_
    refine lv_topi (fun v7 ev7 => ?_)
    have hw := hw v7 ev7
    refine lv_istore (lv' := [(7, .int v7), (6, .int (y0 - y0 / y1 * y1)), (0, .ref (a 0)), (1, .int x1), (2, .int x2), (3, .int x3), (4, .int x4), (5, .int x5)]) hx hb dL_act_56 hl (by decide) rfl (fun ls hl => ?_)
    refine lv_iload_n hx hb dL_act_58 rfl (lv_at hl 3 rfl) ?_
    refine lv_bipush (v := 24) hx hb dL_act_59 (by decide) ?_
    refine lv_irem hx hb dL_act_61 (by decide) ?_
    rcases sw23 (x1 - x1 / (24 : Int32) * (24 : Int32)) with hou | ⟨j, hj, hcs⟩
    · have hw := hw.1 hou
      refine lv_tableOut (tgt := 297) hx hb dL_act_62 hou (by decide) ?_
      refine lv_aload_n hx hb dL_act_297 rfl (lv_at hl 2 rfl) ?_
      refine lv_iload hx hb dL_act_298 (lv_at hl 7 rfl) ?_
      refine kI_l (kr_S [] ⟨hx, hb, hml, hown, hts⟩ (cb_L_told l hst G a o x5 hw H.size) (va_cwS 2 hts gL_act_L_told rfl rfl rfl (by decide +kernel) ⟨Nat.le_of_ble_eq_true rfl, Nat.le_of_ble_eq_true rfl⟩) hK hG hP hD hS hA (List.range 51) nd51 (rg51 G a _) rfl hl.1 rfl (Nat.le_of_ble_eq_true rfl) dL_act_300 ⟨by show _ ≤ 46; omega, by show _ ≤ 276; omega⟩) hP hD hS hA (fun r8 o9 H locs hw hP hD hS => ?_)
      refine W.widen (k := 46) (n := 276) (by omega) (by omega) ?_
      exact fin_l o9 hx hb hr hlocks hK hS hP hD hw dL_act_303
    · have hw := hw.2
      rcases (show j = 0 ∨ j = 1 ∨ j = 2 ∨ j = 3 ∨ j = 4 ∨ j = 5 ∨ j = 6 ∨ j = 7 ∨ j = 8 ∨ j = 9 ∨ j = 10 ∨ j = 11 ∨ j = 12 ∨ j = 13 ∨ j = 14 ∨ j = 15 ∨ j = 16 ∨ j = 17 ∨ j = 18 ∨ j = 19 ∨ j = 20 ∨ j = 21 ∨ j = 22 by omega) with rfl | rfl | rfl | rfl | rfl | rfl | rfl | rfl | rfl | rfl | rfl | rfl | rfl | rfl | rfl | rfl | rfl | rfl | rfl | rfl | rfl | rfl | rfl
      · have hw := hw.1 hcs
        refine lv_tableIn (off := 106) (tgt := 168) hx hb dL_act_62 (by rw [hcs]; decide) (by rw [hcs]; decide) (by rw [hcs]; rfl) (by decide) ?_
        refine lv_aload_n hx hb dL_act_168 rfl (lv_at hl 2 rfl) ?_
        refine lv_iload hx hb dL_act_169 (lv_at hl 1 rfl) ?_
        refine lv_iload hx hb dL_act_171 (lv_at hl 0 rfl) ?_
        refine lv_iconst (v := 1) hx hb dL_act_173 (by decide) ?_
        refine lv_iload_n hx hb dL_act_174 rfl (lv_at hl 4 rfl) ?_
        refine lv_bipush (v := 50) hx hb dL_act_175 (by decide) ?_
        refine lv_irem hx hb dL_act_177 (by decide) ?_
        refine lv_iadd hx hb dL_act_178 ?_
        refine kI_l (kr_SW [] ⟨hx, hb, hml, hown, hts⟩ (cb_L_add l hst G a o (y0 - y0 / y1 * y1) v7 ((1 : Int32) + (x2 - x2 / (50 : Int32) * (50 : Int32))) hw H.size) (vx_cwSW 4 hts gL_act_L_add rfl rfl rfl (by decide +kernel) ⟨Nat.le_of_ble_eq_true rfl, Nat.le_of_ble_eq_true rfl⟩) hK hG hP hD hS hA (List.range 51) nd51 (rg51 G a _) rfl hl.1 rfl (Nat.le_of_ble_eq_true rfl) dL_act_179 ⟨by show _ ≤ 46; omega, by show _ ≤ 276; omega⟩) hP hD hS hA (fun r10 o11 H locs hw hP hD hS => ?_)
        refine W.widen (k := 46) (n := 276) (by omega) (by omega) ?_
        exact fin_l o11 hx hb hr hlocks hK hS hP hD hw dL_act_182
      · have hw := hw.2.1 hcs
        refine lv_tableIn (off := 106) (tgt := 168) hx hb dL_act_62 (by rw [hcs]; decide) (by rw [hcs]; decide) (by rw [hcs]; rfl) (by decide) ?_
        refine lv_aload_n hx hb dL_act_168 rfl (lv_at hl 2 rfl) ?_
        refine lv_iload hx hb dL_act_169 (lv_at hl 1 rfl) ?_
        refine lv_iload hx hb dL_act_171 (lv_at hl 0 rfl) ?_
        refine lv_iconst (v := 1) hx hb dL_act_173 (by decide) ?_
        refine lv_iload_n hx hb dL_act_174 rfl (lv_at hl 4 rfl) ?_
        refine lv_bipush (v := 50) hx hb dL_act_175 (by decide) ?_
        refine lv_irem hx hb dL_act_177 (by decide) ?_
        refine lv_iadd hx hb dL_act_178 ?_
        refine kI_l (kr_SW [] ⟨hx, hb, hml, hown, hts⟩ (cb_L_add l hst G a o (y0 - y0 / y1 * y1) v7 ((1 : Int32) + (x2 - x2 / (50 : Int32) * (50 : Int32))) hw H.size) (vx_cwSW 4 hts gL_act_L_add rfl rfl rfl (by decide +kernel) ⟨Nat.le_of_ble_eq_true rfl, Nat.le_of_ble_eq_true rfl⟩) hK hG hP hD hS hA (List.range 51) nd51 (rg51 G a _) rfl hl.1 rfl (Nat.le_of_ble_eq_true rfl) dL_act_179 ⟨by show _ ≤ 46; omega, by show _ ≤ 276; omega⟩) hP hD hS hA (fun r12 o13 H locs hw hP hD hS => ?_)
        refine W.widen (k := 46) (n := 276) (by omega) (by omega) ?_
        exact fin_l o13 hx hb hr hlocks hK hS hP hD hw dL_act_182
      · have hw := hw.2.2.1 hcs
        refine lv_tableIn (off := 106) (tgt := 168) hx hb dL_act_62 (by rw [hcs]; decide) (by rw [hcs]; decide) (by rw [hcs]; rfl) (by decide) ?_
        refine lv_aload_n hx hb dL_act_168 rfl (lv_at hl 2 rfl) ?_
        refine lv_iload hx hb dL_act_169 (lv_at hl 1 rfl) ?_
        refine lv_iload hx hb dL_act_171 (lv_at hl 0 rfl) ?_
        refine lv_iconst (v := 1) hx hb dL_act_173 (by decide) ?_
        refine lv_iload_n hx hb dL_act_174 rfl (lv_at hl 4 rfl) ?_
        refine lv_bipush (v := 50) hx hb dL_act_175 (by decide) ?_
        refine lv_irem hx hb dL_act_177 (by decide) ?_
        refine lv_iadd hx hb dL_act_178 ?_
        refine kI_l (kr_SW [] ⟨hx, hb, hml, hown, hts⟩ (cb_L_add l hst G a o (y0 - y0 / y1 * y1) v7 ((1 : Int32) + (x2 - x2 / (50 : Int32) * (50 : Int32))) hw H.size) (vx_cwSW 4 hts gL_act_L_add rfl rfl rfl (by decide +kernel) ⟨Nat.le_of_ble_eq_true rfl, Nat.le_of_ble_eq_true rfl⟩) hK hG hP hD hS hA (List.range 51) nd51 (rg51 G a _) rfl hl.1 rfl (Nat.le_of_ble_eq_true rfl) dL_act_179 ⟨by show _ ≤ 46; omega, by show _ ≤ 276; omega⟩) hP hD hS hA (fun r14 o15 H locs hw hP hD hS => ?_)
        refine W.widen (k := 46) (n := 276) (by omega) (by omega) ?_
        exact fin_l o15 hx hb hr hlocks hK hS hP hD hw dL_act_182
      · have hw := hw.2.2.2.1 hcs
        refine lv_tableIn (off := 106) (tgt := 168) hx hb dL_act_62 (by rw [hcs]; decide) (by rw [hcs]; decide) (by rw [hcs]; rfl) (by decide) ?_
        refine lv_aload_n hx hb dL_act_168 rfl (lv_at hl 2 rfl) ?_
        refine lv_iload hx hb dL_act_169 (lv_at hl 1 rfl) ?_
        refine lv_iload hx hb dL_act_171 (lv_at hl 0 rfl) ?_
        refine lv_iconst (v := 1) hx hb dL_act_173 (by decide) ?_
        refine lv_iload_n hx hb dL_act_174 rfl (lv_at hl 4 rfl) ?_
        refine lv_bipush (v := 50) hx hb dL_act_175 (by decide) ?_
        refine lv_irem hx hb dL_act_177 (by decide) ?_
        refine lv_iadd hx hb dL_act_178 ?_
        refine kI_l (kr_SW [] ⟨hx, hb, hml, hown, hts⟩ (cb_L_add l hst G a o (y0 - y0 / y1 * y1) v7 ((1 : Int32) + (x2 - x2 / (50 : Int32) * (50 : Int32))) hw H.size) (vx_cwSW 4 hts gL_act_L_add rfl rfl rfl (by decide +kernel) ⟨Nat.le_of_ble_eq_true rfl, Nat.le_of_ble_eq_true rfl⟩) hK hG hP hD hS hA (List.range 51) nd51 (rg51 G a _) rfl hl.1 rfl (Nat.le_of_ble_eq_true rfl) dL_act_179 ⟨by show _ ≤ 46; omega, by show _ ≤ 276; omega⟩) hP hD hS hA (fun r16 o17 H locs hw hP hD hS => ?_)
        refine W.widen (k := 46) (n := 276) (by omega) (by omega) ?_
        exact fin_l o17 hx hb hr hlocks hK hS hP hD hw dL_act_182
      · have hw := hw.2.2.2.2.1 hcs
        refine lv_tableIn (off := 106) (tgt := 168) hx hb dL_act_62 (by rw [hcs]; decide) (by rw [hcs]; decide) (by rw [hcs]; rfl) (by decide) ?_
        refine lv_aload_n hx hb dL_act_168 rfl (lv_at hl 2 rfl) ?_
        refine lv_iload hx hb dL_act_169 (lv_at hl 1 rfl) ?_
        refine lv_iload hx hb dL_act_171 (lv_at hl 0 rfl) ?_
        refine lv_iconst (v := 1) hx hb dL_act_173 (by decide) ?_
        refine lv_iload_n hx hb dL_act_174 rfl (lv_at hl 4 rfl) ?_
        refine lv_bipush (v := 50) hx hb dL_act_175 (by decide) ?_
        refine lv_irem hx hb dL_act_177 (by decide) ?_
        refine lv_iadd hx hb dL_act_178 ?_
        refine kI_l (kr_SW [] ⟨hx, hb, hml, hown, hts⟩ (cb_L_add l hst G a o (y0 - y0 / y1 * y1) v7 ((1 : Int32) + (x2 - x2 / (50 : Int32) * (50 : Int32))) hw H.size) (vx_cwSW 4 hts gL_act_L_add rfl rfl rfl (by decide +kernel) ⟨Nat.le_of_ble_eq_true rfl, Nat.le_of_ble_eq_true rfl⟩) hK hG hP hD hS hA (List.range 51) nd51 (rg51 G a _) rfl hl.1 rfl (Nat.le_of_ble_eq_true rfl) dL_act_179 ⟨by show _ ≤ 46; omega, by show _ ≤ 276; omega⟩) hP hD hS hA (fun r18 o19 H locs hw hP hD hS => ?_)
        refine W.widen (k := 46) (n := 276) (by omega) (by omega) ?_
        exact fin_l o19 hx hb hr hlocks hK hS hP hD hw dL_act_182
      · have hw := hw.2.2.2.2.2.1 hcs
        refine lv_tableIn (off := 121) (tgt := 183) hx hb dL_act_62 (by rw [hcs]; decide) (by rw [hcs]; decide) (by rw [hcs]; rfl) (by decide) ?_
        refine lv_aload_n hx hb dL_act_183 rfl (lv_at hl 2 rfl) ?_
        refine lv_iload hx hb dL_act_184 (lv_at hl 6 rfl) ?_
        refine kI_l (kr_SW [] ⟨hx, hb, hml, hown, hts⟩ (cb_L_strike l hst G a o x4 hw H.size) (vx_cwSW 2 hts gL_act_L_strike rfl rfl rfl (by decide +kernel) ⟨Nat.le_of_ble_eq_true rfl, Nat.le_of_ble_eq_true rfl⟩) hK hG hP hD hS hA (List.range 51) nd51 (rg51 G a _) rfl hl.1 rfl (Nat.le_of_ble_eq_true rfl) dL_act_186 ⟨by show _ ≤ 46; omega, by show _ ≤ 276; omega⟩) hP hD hS hA (fun r20 o21 H locs hw hP hD hS => ?_)
        refine W.widen (k := 46) (n := 276) (by omega) (by omega) ?_
        exact fin_l o21 hx hb hr hlocks hK hS hP hD hw dL_act_189
      · have hw := hw.2.2.2.2.2.2.1 hcs
        refine lv_tableIn (off := 128) (tgt := 190) hx hb dL_act_62 (by rw [hcs]; decide) (by rw [hcs]; decide) (by rw [hcs]; rfl) (by decide) ?_
        refine lv_aload_n hx hb dL_act_190 rfl (lv_at hl 2 rfl) ?_
        refine lv_iload hx hb dL_act_191 (lv_at hl 6 rfl) ?_
        refine lv_iload hx hb dL_act_193 (lv_at hl 1 rfl) ?_
        refine lv_iload hx hb dL_act_195 (lv_at hl 0 rfl) ?_
        refine kI_l (kr_SW [] ⟨hx, hb, hml, hown, hts⟩ (cb_L_move l hst G a o x4 (y0 - y0 / y1 * y1) v7 hw H.size) (vx_cwSW 4 hts gL_act_L_move rfl rfl rfl (by decide +kernel) ⟨Nat.le_of_ble_eq_true rfl, Nat.le_of_ble_eq_true rfl⟩) hK hG hP hD hS hA (List.range 51) nd51 (rg51 G a _) rfl hl.1 rfl (Nat.le_of_ble_eq_true rfl) dL_act_197 ⟨by show _ ≤ 46; omega, by show _ ≤ 276; omega⟩) hP hD hS hA (fun r22 o23 H locs hw hP hD hS => ?_)
        refine W.widen (k := 46) (n := 276) (by omega) (by omega) ?_
        exact fin_l o23 hx hb hr hlocks hK hS hP hD hw dL_act_200
      · have hw := hw.2.2.2.2.2.2.2.1 hcs
        refine lv_tableIn (off := 128) (tgt := 190) hx hb dL_act_62 (by rw [hcs]; decide) (by rw [hcs]; decide) (by rw [hcs]; rfl) (by decide) ?_
        refine lv_aload_n hx hb dL_act_190 rfl (lv_at hl 2 rfl) ?_
        refine lv_iload hx hb dL_act_191 (lv_at hl 6 rfl) ?_
        refine lv_iload hx hb dL_act_193 (lv_at hl 1 rfl) ?_
        refine lv_iload hx hb dL_act_195 (lv_at hl 0 rfl) ?_
        refine kI_l (kr_SW [] ⟨hx, hb, hml, hown, hts⟩ (cb_L_move l hst G a o x4 (y0 - y0 / y1 * y1) v7 hw H.size) (vx_cwSW 4 hts gL_act_L_move rfl rfl rfl (by decide +kernel) ⟨Nat.le_of_ble_eq_true rfl, Nat.le_of_ble_eq_true rfl⟩) hK hG hP hD hS hA (List.range 51) nd51 (rg51 G a _) rfl hl.1 rfl (Nat.le_of_ble_eq_true rfl) dL_act_197 ⟨by show _ ≤ 46; omega, by show _ ≤ 276; omega⟩) hP hD hS hA (fun r24 o25 H locs hw hP hD hS => ?_)
        refine W.widen (k := 46) (n := 276) (by omega) (by omega) ?_
        exact fin_l o25 hx hb hr hlocks hK hS hP hD hw dL_act_200
      · have hw := hw.2.2.2.2.2.2.2.2.1 hcs
        refine lv_tableIn (off := 128) (tgt := 190) hx hb dL_act_62 (by rw [hcs]; decide) (by rw [hcs]; decide) (by rw [hcs]; rfl) (by decide) ?_
        refine lv_aload_n hx hb dL_act_190 rfl (lv_at hl 2 rfl) ?_
        refine lv_iload hx hb dL_act_191 (lv_at hl 6 rfl) ?_
        refine lv_iload hx hb dL_act_193 (lv_at hl 1 rfl) ?_
        refine lv_iload hx hb dL_act_195 (lv_at hl 0 rfl) ?_
        refine kI_l (kr_SW [] ⟨hx, hb, hml, hown, hts⟩ (cb_L_move l hst G a o x4 (y0 - y0 / y1 * y1) v7 hw H.size) (vx_cwSW 4 hts gL_act_L_move rfl rfl rfl (by decide +kernel) ⟨Nat.le_of_ble_eq_true rfl, Nat.le_of_ble_eq_true rfl⟩) hK hG hP hD hS hA (List.range 51) nd51 (rg51 G a _) rfl hl.1 rfl (Nat.le_of_ble_eq_true rfl) dL_act_197 ⟨by show _ ≤ 46; omega, by show _ ≤ 276; omega⟩) hP hD hS hA (fun r26 o27 H locs hw hP hD hS => ?_)
        refine W.widen (k := 46) (n := 276) (by omega) (by omega) ?_
        exact fin_l o27 hx hb hr hlocks hK hS hP hD hw dL_act_200
      · have hw := hw.2.2.2.2.2.2.2.2.2.1 hcs
        refine lv_tableIn (off := 139) (tgt := 201) hx hb dL_act_62 (by rw [hcs]; decide) (by rw [hcs]; decide) (by rw [hcs]; rfl) (by decide) ?_
        refine lv_aload_n hx hb dL_act_201 rfl (lv_at hl 2 rfl) ?_
        refine lv_iload hx hb dL_act_202 (lv_at hl 6 rfl) ?_
        refine lv_iconst (v := 1) hx hb dL_act_204 (by decide) ?_
        refine lv_iload hx hb dL_act_205 (lv_at hl 7 rfl) ?_
        refine lv_bipush (v := 50) hx hb dL_act_207 (by decide) ?_
        refine lv_irem hx hb dL_act_209 (by decide) ?_
        refine lv_iadd hx hb dL_act_210 ?_
        refine kI_l (kr_SW [] ⟨hx, hb, hml, hown, hts⟩ (cb_L_changeFame l hst G a o x4 ((1 : Int32) + (x5 - x5 / (50 : Int32) * (50 : Int32))) hw H.size) (vx_cwSW 3 hts gL_act_L_changeFame rfl rfl rfl (by decide +kernel) ⟨Nat.le_of_ble_eq_true rfl, Nat.le_of_ble_eq_true rfl⟩) hK hG hP hD hS hA (List.range 51) nd51 (rg51 G a _) rfl hl.1 rfl (Nat.le_of_ble_eq_true rfl) dL_act_211 ⟨by show _ ≤ 46; omega, by show _ ≤ 276; omega⟩) hP hD hS hA (fun r28 o29 H locs hw hP hD hS => ?_)
        refine W.widen (k := 46) (n := 276) (by omega) (by omega) ?_
        exact fin_l o29 hx hb hr hlocks hK hS hP hD hw dL_act_214
      · have hw := hw.2.2.2.2.2.2.2.2.2.2.1 hcs
        refine lv_tableIn (off := 139) (tgt := 201) hx hb dL_act_62 (by rw [hcs]; decide) (by rw [hcs]; decide) (by rw [hcs]; rfl) (by decide) ?_
        refine lv_aload_n hx hb dL_act_201 rfl (lv_at hl 2 rfl) ?_
        refine lv_iload hx hb dL_act_202 (lv_at hl 6 rfl) ?_
        refine lv_iconst (v := 1) hx hb dL_act_204 (by decide) ?_
        refine lv_iload hx hb dL_act_205 (lv_at hl 7 rfl) ?_
        refine lv_bipush (v := 50) hx hb dL_act_207 (by decide) ?_
        refine lv_irem hx hb dL_act_209 (by decide) ?_
        refine lv_iadd hx hb dL_act_210 ?_
        refine kI_l (kr_SW [] ⟨hx, hb, hml, hown, hts⟩ (cb_L_changeFame l hst G a o x4 ((1 : Int32) + (x5 - x5 / (50 : Int32) * (50 : Int32))) hw H.size) (vx_cwSW 3 hts gL_act_L_changeFame rfl rfl rfl (by decide +kernel) ⟨Nat.le_of_ble_eq_true rfl, Nat.le_of_ble_eq_true rfl⟩) hK hG hP hD hS hA (List.range 51) nd51 (rg51 G a _) rfl hl.1 rfl (Nat.le_of_ble_eq_true rfl) dL_act_211 ⟨by show _ ≤ 46; omega, by show _ ≤ 276; omega⟩) hP hD hS hA (fun r30 o31 H locs hw hP hD hS => ?_)
        refine W.widen (k := 46) (n := 276) (by omega) (by omega) ?_
        exact fin_l o31 hx hb hr hlocks hK hS hP hD hw dL_act_214
      · have hw := hw.2.2.2.2.2.2.2.2.2.2.2.1 hcs
        refine lv_tableIn (off := 153) (tgt := 215) hx hb dL_act_62 (by rw [hcs]; decide) (by rw [hcs]; decide) (by rw [hcs]; rfl) (by decide) ?_
        refine lv_aload_n hx hb dL_act_215 rfl (lv_at hl 2 rfl) ?_
        refine lv_iload hx hb dL_act_216 (lv_at hl 7 rfl) ?_
        refine lv_bipush (v := 9) hx hb dL_act_218 (by decide) ?_
        refine lv_irem hx hb dL_act_220 (by decide) ?_
        refine kI_l (kr_SW [] ⟨hx, hb, hml, hown, hts⟩ (cb_L_changePause l hst G a o (x5 - x5 / (9 : Int32) * (9 : Int32)) hw H.size) (vx_cwSW 2 hts gL_act_L_changePause rfl rfl rfl (by decide +kernel) ⟨Nat.le_of_ble_eq_true rfl, Nat.le_of_ble_eq_true rfl⟩) hK hG hP hD hS hA (List.range 51) nd51 (rg51 G a _) rfl hl.1 rfl (Nat.le_of_ble_eq_true rfl) dL_act_221 ⟨by show _ ≤ 46; omega, by show _ ≤ 276; omega⟩) hP hD hS hA (fun r32 o33 H locs hw hP hD hS => ?_)
        refine W.widen (k := 46) (n := 276) (by omega) (by omega) ?_
        exact fin_l o33 hx hb hr hlocks hK hS hP hD hw dL_act_224
      · have hw := hw.2.2.2.2.2.2.2.2.2.2.2.2.1 hcs
        refine lv_tableIn (off := 153) (tgt := 215) hx hb dL_act_62 (by rw [hcs]; decide) (by rw [hcs]; decide) (by rw [hcs]; rfl) (by decide) ?_
        refine lv_aload_n hx hb dL_act_215 rfl (lv_at hl 2 rfl) ?_
        refine lv_iload hx hb dL_act_216 (lv_at hl 7 rfl) ?_
        refine lv_bipush (v := 9) hx hb dL_act_218 (by decide) ?_
        refine lv_irem hx hb dL_act_220 (by decide) ?_
        refine kI_l (kr_SW [] ⟨hx, hb, hml, hown, hts⟩ (cb_L_changePause l hst G a o (x5 - x5 / (9 : Int32) * (9 : Int32)) hw H.size) (vx_cwSW 2 hts gL_act_L_changePause rfl rfl rfl (by decide +kernel) ⟨Nat.le_of_ble_eq_true rfl, Nat.le_of_ble_eq_true rfl⟩) hK hG hP hD hS hA (List.range 51) nd51 (rg51 G a _) rfl hl.1 rfl (Nat.le_of_ble_eq_true rfl) dL_act_221 ⟨by show _ ≤ 46; omega, by show _ ≤ 276; omega⟩) hP hD hS hA (fun r34 o35 H locs hw hP hD hS => ?_)
        refine W.widen (k := 46) (n := 276) (by omega) (by omega) ?_
        exact fin_l o35 hx hb hr hlocks hK hS hP hD hw dL_act_224
      · have hw := hw.2.2.2.2.2.2.2.2.2.2.2.2.2.1 hcs
        refine lv_tableIn (off := 163) (tgt := 225) hx hb dL_act_62 (by rw [hcs]; decide) (by rw [hcs]; decide) (by rw [hcs]; rfl) (by decide) ?_
        refine lv_aload_n hx hb dL_act_225 rfl (lv_at hl 2 rfl) ?_
        refine lv_iload hx hb dL_act_226 (lv_at hl 6 rfl) ?_
        refine kI_l (kr_SW [] ⟨hx, hb, hml, hown, hts⟩ (cb_L_book l hst G a o x4 hw H.size) (vx_cwSW 2 hts gL_act_L_book rfl rfl rfl (by decide +kernel) ⟨Nat.le_of_ble_eq_true rfl, Nat.le_of_ble_eq_true rfl⟩) hK hG hP hD hS hA (List.range 51) nd51 (rg51 G a _) rfl hl.1 rfl (Nat.le_of_ble_eq_true rfl) dL_act_228 ⟨by show _ ≤ 46; omega, by show _ ≤ 276; omega⟩) hP hD hS hA (fun r36 o37 H locs hw hP hD hS => ?_)
        refine W.widen (k := 46) (n := 276) (by omega) (by omega) ?_
        exact fin_l o37 hx hb hr hlocks hK hS hP hD hw dL_act_231
      · have hw := hw.2.2.2.2.2.2.2.2.2.2.2.2.2.2.1 hcs
        refine lv_tableIn (off := 163) (tgt := 225) hx hb dL_act_62 (by rw [hcs]; decide) (by rw [hcs]; decide) (by rw [hcs]; rfl) (by decide) ?_
        refine lv_aload_n hx hb dL_act_225 rfl (lv_at hl 2 rfl) ?_
        refine lv_iload hx hb dL_act_226 (lv_at hl 6 rfl) ?_
        refine kI_l (kr_SW [] ⟨hx, hb, hml, hown, hts⟩ (cb_L_book l hst G a o x4 hw H.size) (vx_cwSW 2 hts gL_act_L_book rfl rfl rfl (by decide +kernel) ⟨Nat.le_of_ble_eq_true rfl, Nat.le_of_ble_eq_true rfl⟩) hK hG hP hD hS hA (List.range 51) nd51 (rg51 G a _) rfl hl.1 rfl (Nat.le_of_ble_eq_true rfl) dL_act_228 ⟨by show _ ≤ 46; omega, by show _ ≤ 276; omega⟩) hP hD hS hA (fun r38 o39 H locs hw hP hD hS => ?_)
        refine W.widen (k := 46) (n := 276) (by omega) (by omega) ?_
        exact fin_l o39 hx hb hr hlocks hK hS hP hD hw dL_act_231
      · have hw := hw.2.2.2.2.2.2.2.2.2.2.2.2.2.2.2.1 hcs
        refine lv_tableIn (off := 163) (tgt := 225) hx hb dL_act_62 (by rw [hcs]; decide) (by rw [hcs]; decide) (by rw [hcs]; rfl) (by decide) ?_
        refine lv_aload_n hx hb dL_act_225 rfl (lv_at hl 2 rfl) ?_
        refine lv_iload hx hb dL_act_226 (lv_at hl 6 rfl) ?_
        refine kI_l (kr_SW [] ⟨hx, hb, hml, hown, hts⟩ (cb_L_book l hst G a o x4 hw H.size) (vx_cwSW 2 hts gL_act_L_book rfl rfl rfl (by decide +kernel) ⟨Nat.le_of_ble_eq_true rfl, Nat.le_of_ble_eq_true rfl⟩) hK hG hP hD hS hA (List.range 51) nd51 (rg51 G a _) rfl hl.1 rfl (Nat.le_of_ble_eq_true rfl) dL_act_228 ⟨by show _ ≤ 46; omega, by show _ ≤ 276; omega⟩) hP hD hS hA (fun r40 o41 H locs hw hP hD hS => ?_)
        refine W.widen (k := 46) (n := 276) (by omega) (by omega) ?_
        exact fin_l o41 hx hb hr hlocks hK hS hP hD hw dL_act_231
      · have hw := hw.2.2.2.2.2.2.2.2.2.2.2.2.2.2.2.2.1 hcs
        refine lv_tableIn (off := 163) (tgt := 225) hx hb dL_act_62 (by rw [hcs]; decide) (by rw [hcs]; decide) (by rw [hcs]; rfl) (by decide) ?_
        refine lv_aload_n hx hb dL_act_225 rfl (lv_at hl 2 rfl) ?_
        refine lv_iload hx hb dL_act_226 (lv_at hl 6 rfl) ?_
        refine kI_l (kr_SW [] ⟨hx, hb, hml, hown, hts⟩ (cb_L_book l hst G a o x4 hw H.size) (vx_cwSW 2 hts gL_act_L_book rfl rfl rfl (by decide +kernel) ⟨Nat.le_of_ble_eq_true rfl, Nat.le_of_ble_eq_true rfl⟩) hK hG hP hD hS hA (List.range 51) nd51 (rg51 G a _) rfl hl.1 rfl (Nat.le_of_ble_eq_true rfl) dL_act_228 ⟨by show _ ≤ 46; omega, by show _ ≤ 276; omega⟩) hP hD hS hA (fun r42 o43 H locs hw hP hD hS => ?_)
        refine W.widen (k := 46) (n := 276) (by omega) (by omega) ?_
        exact fin_l o43 hx hb hr hlocks hK hS hP hD hw dL_act_231
      · have hw := hw.2.2.2.2.2.2.2.2.2.2.2.2.2.2.2.2.2.1 hcs
        refine lv_tableIn (off := 170) (tgt := 232) hx hb dL_act_62 (by rw [hcs]; decide) (by rw [hcs]; decide) (by rw [hcs]; rfl) (by decide) ?_
        refine lv_aload_n hx hb dL_act_232 rfl (lv_at hl 2 rfl) ?_
        refine lv_iload hx hb dL_act_233 (lv_at hl 6 rfl) ?_
        refine kI_l (kr_SW [] ⟨hx, hb, hml, hown, hts⟩ (cb_L_cancel l hst G a o x4 hw H.size) (vx_cwSW 2 hts gL_act_L_cancel rfl rfl rfl (by decide +kernel) ⟨Nat.le_of_ble_eq_true rfl, Nat.le_of_ble_eq_true rfl⟩) hK hG hP hD hS hA (List.range 51) nd51 (rg51 G a _) rfl hl.1 rfl (Nat.le_of_ble_eq_true rfl) dL_act_235 ⟨by show _ ≤ 46; omega, by show _ ≤ 276; omega⟩) hP hD hS hA (fun r44 o45 H locs hw hP hD hS => ?_)
        refine W.widen (k := 46) (n := 276) (by omega) (by omega) ?_
        exact fin_l o45 hx hb hr hlocks hK hS hP hD hw dL_act_238
      · have hw := hw.2.2.2.2.2.2.2.2.2.2.2.2.2.2.2.2.2.2.1 hcs
        refine lv_tableIn (off := 170) (tgt := 232) hx hb dL_act_62 (by rw [hcs]; decide) (by rw [hcs]; decide) (by rw [hcs]; rfl) (by decide) ?_
        refine lv_aload_n hx hb dL_act_232 rfl (lv_at hl 2 rfl) ?_
        refine lv_iload hx hb dL_act_233 (lv_at hl 6 rfl) ?_
        refine kI_l (kr_SW [] ⟨hx, hb, hml, hown, hts⟩ (cb_L_cancel l hst G a o x4 hw H.size) (vx_cwSW 2 hts gL_act_L_cancel rfl rfl rfl (by decide +kernel) ⟨Nat.le_of_ble_eq_true rfl, Nat.le_of_ble_eq_true rfl⟩) hK hG hP hD hS hA (List.range 51) nd51 (rg51 G a _) rfl hl.1 rfl (Nat.le_of_ble_eq_true rfl) dL_act_235 ⟨by show _ ≤ 46; omega, by show _ ≤ 276; omega⟩) hP hD hS hA (fun r46 o47 H locs hw hP hD hS => ?_)
        refine W.widen (k := 46) (n := 276) (by omega) (by omega) ?_
        exact fin_l o47 hx hb hr hlocks hK hS hP hD hw dL_act_238
      · have hw := hw.2.2.2.2.2.2.2.2.2.2.2.2.2.2.2.2.2.2.2.1 hcs
        refine lv_tableIn (off := 177) (tgt := 239) hx hb dL_act_62 (by rw [hcs]; decide) (by rw [hcs]; decide) (by rw [hcs]; rfl) (by decide) ?_
        refine lv_iload hx hb dL_act_239 (lv_at hl 7 rfl) ?_
        refine lv_iconst (v := 2) hx hb dL_act_241 (by decide) ?_
        refine lv_irem hx hb dL_act_242 (by decide) ?_
        refine lv_if_ne (tgt := 254) hx hb dL_act_243 (by decide) (fun cd48 => ?_) (fun cd48 => ?_)
        · have hw := hw.1 cd48
          refine lv_aload_n hx hb dL_act_254 rfl (lv_at hl 2 rfl) ?_
          refine lv_iload hx hb dL_act_255 (lv_at hl 7 rfl) ?_
          refine kI_l (kr_S [] ⟨hx, hb, hml, hown, hts⟩ (cb_L_told l hst G a o x5 hw H.size) (va_cwS 2 hts gL_act_L_told rfl rfl rfl (by decide +kernel) ⟨Nat.le_of_ble_eq_true rfl, Nat.le_of_ble_eq_true rfl⟩) hK hG hP hD hS hA (List.range 51) nd51 (rg51 G a _) rfl hl.1 rfl (Nat.le_of_ble_eq_true rfl) dL_act_257 ⟨by show _ ≤ 46; omega, by show _ ≤ 276; omega⟩) hP hD hS hA (fun r49 o50 H locs hw hP hD hS => ?_)
          refine W.widen (k := 46) (n := 276) (by omega) (by omega) ?_
          exact fin_l o50 hx hb hr hlocks hK hS hP hD hw dL_act_260
        · have hw := hw.2 cd48
          refine lv_aload_n hx hb dL_act_246 rfl (lv_at hl 2 rfl) ?_
          refine kb_X5_bookBest a o  hw ⟨hx, hb, hml, hown, hts⟩ (cwV 0 hts gL_act_X5_bookBest rfl rfl rfl (by decide +kernel) ⟨Nat.le_of_ble_eq_true rfl, Nat.le_of_ble_eq_true rfl⟩) hK hG hP hD hS hA hl.1 (Nat.le_of_ble_eq_true rfl) dL_act_247 ⟨by show _ ≤ 46; omega, by show _ ≤ 276; omega⟩ (fun r51 o52 H locs hw hP hD hS => ?_)
          refine lv_i2l hx hb dL_act_250 rfl ?_
          refine lv_goto (tgt := 260) hx hb dL_act_251 (by decide) ?_
          refine W.widen (k := 46) (n := 276) (by omega) (by omega) ?_
          exact fin_l o52 hx hb hr hlocks hK hS hP hD hw dL_act_260
      · have hw := hw.2.2.2.2.2.2.2.2.2.2.2.2.2.2.2.2.2.2.2.2.1 hcs
        refine lv_tableIn (off := 199) (tgt := 261) hx hb dL_act_62 (by rw [hcs]; decide) (by rw [hcs]; decide) (by rw [hcs]; rfl) (by decide) ?_
        refine lv_aload_n hx hb dL_act_261 rfl (lv_at hl 2 rfl) ?_
        refine kI_l (kr_SW [] ⟨hx, hb, hml, hown, hts⟩ (cb_L_undo l hst G a o hw H.size) (vx_cwSW 1 hts gL_act_L_undo rfl rfl rfl (by decide +kernel) ⟨Nat.le_of_ble_eq_true rfl, Nat.le_of_ble_eq_true rfl⟩) hK hG hP hD hS hA (List.range 51) nd51 (rg51 G a _) rfl hl.1 rfl (Nat.le_of_ble_eq_true rfl) dL_act_262 ⟨by show _ ≤ 46; omega, by show _ ≤ 276; omega⟩) hP hD hS hA (fun r53 o54 H locs hw hP hD hS => ?_)
        refine W.widen (k := 46) (n := 276) (by omega) (by omega) ?_
        exact fin_l o54 hx hb hr hlocks hK hS hP hD hw dL_act_265
      · have hw := hw.2.2.2.2.2.2.2.2.2.2.2.2.2.2.2.2.2.2.2.2.2.1 hcs
        refine lv_tableIn (off := 199) (tgt := 261) hx hb dL_act_62 (by rw [hcs]; decide) (by rw [hcs]; decide) (by rw [hcs]; rfl) (by decide) ?_
        refine lv_aload_n hx hb dL_act_261 rfl (lv_at hl 2 rfl) ?_
        refine kI_l (kr_SW [] ⟨hx, hb, hml, hown, hts⟩ (cb_L_undo l hst G a o hw H.size) (vx_cwSW 1 hts gL_act_L_undo rfl rfl rfl (by decide +kernel) ⟨Nat.le_of_ble_eq_true rfl, Nat.le_of_ble_eq_true rfl⟩) hK hG hP hD hS hA (List.range 51) nd51 (rg51 G a _) rfl hl.1 rfl (Nat.le_of_ble_eq_true rfl) dL_act_262 ⟨by show _ ≤ 46; omega, by show _ ≤ 276; omega⟩) hP hD hS hA (fun r55 o56 H locs hw hP hD hS => ?_)
        refine W.widen (k := 46) (n := 276) (by omega) (by omega) ?_
        exact fin_l o56 hx hb hr hlocks hK hS hP hD hw dL_act_265
      · have hw := hw.2.2.2.2.2.2.2.2.2.2.2.2.2.2.2.2.2.2.2.2.2.2 hcs
        refine lv_tableIn (off := 204) (tgt := 266) hx hb dL_act_62 (by rw [hcs]; decide) (by rw [hcs]; decide) (by rw [hcs]; rfl) (by decide) ?_
        refine lv_iload hx hb dL_act_266 (lv_at hl 7 rfl) ?_
        refine lv_iconst (v := 2) hx hb dL_act_268 (by decide) ?_
        refine lv_irem hx hb dL_act_269 (by decide) ?_
        refine lv_if_ne (tgt := 286) hx hb dL_act_270 (by decide) (fun cd57 => ?_) (fun cd57 => ?_)
        · have hw := hw.1 cd57
          refine lv_aload_n hx hb dL_act_286 rfl (lv_at hl 2 rfl) ?_
          refine lv_iload hx hb dL_act_287 (lv_at hl 7 rfl) ?_
          refine lv_iconst (v := 2) hx hb dL_act_289 (by decide) ?_
          refine lv_idiv hx hb dL_act_290 (by decide) ?_
          refine lv_iconst (v := 1) hx hb dL_act_291 (by decide) ?_
          refine lv_iand hx hb dL_act_292 ?_
          refine kI_l (kr_SW [] ⟨hx, hb, hml, hown, hts⟩ (cb_L_goBack l hst G a o ((x5 / (2 : Int32)) &&& (1 : Int32)) hw H.size) (vx_cwSW 2 hts gL_act_L_goBack rfl rfl rfl (by decide +kernel) ⟨Nat.le_of_ble_eq_true rfl, Nat.le_of_ble_eq_true rfl⟩) hK hG hP hD hS hA (List.range 51) nd51 (rg51 G a _) rfl hl.1 rfl (Nat.le_of_ble_eq_true rfl) dL_act_293 ⟨by show _ ≤ 46; omega, by show _ ≤ 276; omega⟩) hP hD hS hA (fun r58 o59 H locs hw hP hD hS => ?_)
          refine W.widen (k := 46) (n := 276) (by omega) (by omega) ?_
          exact fin_l o59 hx hb hr hlocks hK hS hP hD hw dL_act_296
        · have hw := hw.2 cd57
          refine lv_aload_n hx hb dL_act_273 rfl (lv_at hl 2 rfl) ?_
          refine lv_iload hx hb dL_act_274 (lv_at hl 7 rfl) ?_
          refine lv_iconst (v := 2) hx hb dL_act_276 (by decide) ?_
          refine lv_idiv hx hb dL_act_277 (by decide) ?_
          refine lv_iconst (v := 1) hx hb dL_act_278 (by decide) ?_
          refine lv_iand hx hb dL_act_279 ?_
          refine kI_l (kr_SW [] ⟨hx, hb, hml, hown, hts⟩ (cb_L_keep l hst G a o ((x5 / (2 : Int32)) &&& (1 : Int32)) hw H.size) (vx_cwSW 2 hts gL_act_L_keep rfl rfl rfl (by decide +kernel) ⟨Nat.le_of_ble_eq_true rfl, Nat.le_of_ble_eq_true rfl⟩) hK hG hP hD hS hA (List.range 51) nd51 (rg51 G a _) rfl hl.1 rfl (Nat.le_of_ble_eq_true rfl) dL_act_280 ⟨by show _ ≤ 46; omega, by show _ ≤ 276; omega⟩) hP hD hS hA (fun r60 o61 H locs hw hP hD hS => ?_)
          refine lv_goto (tgt := 296) hx hb dL_act_283 (by decide) ?_
          refine W.widen (k := 46) (n := 276) (by omega) (by omega) ?_
          exact fin_l o61 hx hb hr hlocks hK hS hP hD hw dL_act_296
  have J16 : ∀ (k z : Nat) (o : OB) (x1 : Int32) (x2 : Int32) (x3 : Int32) (y0 : Int32) (H : Heap) (locs : List Loc) (ls : Array Slot), k + (46) ≤ 46 → z + 6 * (46) ≤ 276 → va_P (gD G) vwCl (wOB G a o) H → va_D A (wOB G a o) → va_S A s.heap H locs → lv_has ls 8 [(0, .ref (a 0)), (1, .int x1), (2, .int x2), (3, .int x3)] → wj_b_L_act_16 Q o x1 x2 x3 y0 → W p l e ({ frames := 10, cells := 46, slots := 276, locals := 179 } : Room) s m ([.ref (a 0), .int a1, .int a2] : List Value).toArray below meth c H locs k z (MQ below (va_Ql (fun (r : Int64) (u : OB) => Q r u) (mBk G A (fun (u : OB) => (wOB G a u))) A) ([.ref (a 0), .int a1, .int a2] : List Value).toArray s 46 276 A) (F0 m 16 ls [.int y0]) := by
    intro k z o x1 x2 x3 y0 H locs ls hbk hbz hP hD hS hl hw
    unfold wj_b_L_act_16 at hw
    refine lv_istore (lv' := [(4, .int y0), (0, .ref (a 0)), (1, .int x1), (2, .int x2), (3, .int x3)]) hx hb dL_act_16 hl (by decide) rfl (fun ls hl => ?_)
    refine lv_iload_n hx hb dL_act_18 rfl (lv_at hl 3 rfl) ?_
    refine lv_bipush (v := 14) hx hb dL_act_19 (by decide) ?_
    refine lv_idiv hx hb dL_act_21 (by decide) ?_
    refine lv_istore (lv' := [(5, .int (x2 / (14 : Int32))), (4, .int y0), (0, .ref (a 0)), (1, .int x1), (2, .int x2), (3, .int x3)]) hx hb dL_act_22 hl (by decide) rfl (fun ls hl => ?_)
    refine lv_iload hx hb dL_act_24 (lv_at hl 0 rfl) ?_
    refine lv_iload hx hb dL_act_26 (lv_at hl 0 rfl) ?_
    refine lv_iconst (v := 3) hx hb dL_act_28 (by decide) ?_
    refine lv_irem hx hb dL_act_29 (by decide) ?_
    refine lv_if_ne (tgt := 38) hx hb dL_act_30 (by decide) (fun cd5 => ?_) (fun cd5 => ?_)
    · have hw := hw.1 cd5
      refine lv_bipush (v := 30) hx hb dL_act_38 (by decide) ?_
      exact J40 _ _ o x1 x2 x3 y0 (x2 / (14 : Int32)) (x2 / (14 : Int32)) (30 : Int32) _ _ _ (by omega) (by omega) hP hD hS (lv_sub hl [2, 3, 4, 5, 1, 0] rfl) hw
    · have hw := hw.2 cd5
      refine lv_bipush (v := 90) hx hb dL_act_33 (by decide) ?_
      refine lv_goto (tgt := 40) hx hb dL_act_35 (by decide) ?_
      exact J40 _ _ o x1 x2 x3 y0 (x2 / (14 : Int32)) (x2 / (14 : Int32)) (90 : Int32) _ _ _ (by omega) (by omega) hP hD hS (lv_sub hl [2, 3, 4, 5, 1, 0] rfl) hw
  unfold wb_L_act at hw
  refine lv_aload_n hx hb dL_act_0 rfl (lv_at hl 0 rfl) ?_
  refine kb_X5_rehearsals a o  hw ⟨hx, hb, hml, hown, hts⟩ (cwV 0 hts gL_act_X5_rehearsals rfl rfl rfl (by decide +kernel) ⟨Nat.le_of_ble_eq_true rfl, Nat.le_of_ble_eq_true rfl⟩) hK hG hP hD hS hA hl.1 (Nat.le_of_ble_eq_true rfl) dL_act_1 ⟨by show _ ≤ 46; omega, by show _ ≤ 276; omega⟩ (fun r1 o2 H locs hw hP hD hS => ?_)
  refine lv_istore_n (lv' := [(3, .int r1), (0, .ref (a 0)), (1, .int a1), (2, .int a2)]) hx hb dL_act_4 rfl hl (by decide) rfl (fun ls hl => ?_)
  refine lv_iload_n hx hb dL_act_5 rfl (lv_at hl 0 rfl) ?_
  refine lv_if_ne (tgt := 13) hx hb dL_act_6 (by decide) (fun cd3 => ?_) (fun cd3 => ?_)
  · have hw := hw.1 cd3
    refine lv_iload_n hx hb dL_act_13 rfl (lv_at hl 3 rfl) ?_
    refine lv_iload_n hx hb dL_act_14 rfl (lv_at hl 0 rfl) ?_
    obtain ⟨h4, hw⟩ := hw
    refine lv_irem hx hb dL_act_15 h4 ?_
    exact J16 _ _ o2 a1 a2 r1 (a2 - a2 / r1 * r1) _ _ _ (by omega) (by omega) hP hD hS (lv_sub hl [1, 2, 3, 0] rfl) hw
  · have hw := hw.2 cd3
    refine lv_iconst (v := 0) hx hb dL_act_9 (by decide) ?_
    refine lv_goto (tgt := 16) hx hb dL_act_10 (by decide) ?_
    exact J16 _ _ o2 a1 a2 r1 (0 : Int32) _ _ _ (by omega) (by omega) hP hD hS (lv_sub hl [1, 2, 3, 0] rfl) hw
set_option maxHeartbeats 16000000 in
set_option maxRecDepth 100000 in
theorem cb_L_alike (l : Launch) (hst : l.stackTraces = false) (G : mG) (a : Nat → Nat) (b : Nat → Nat) (o : OB) (v : OB) {Q : Int32 → OB → OB → Prop} (hw : wb_L_alike o v Q) (sz : Nat) :
    Met l yL_alike wsL_alike ({ frames := 23, cells := 0, slots := 0, locals := 591 } : Room) (va_Pc [.ref (a 0), .ref (b 0)] (mPre G (wOB G a o ++ wOB G b v) sz)) (va_Qi (fun (r : Int32) (u : OB × OB) => (r = 0 ∨ r = 1) ∧ Q r u.1 u.2) (mBk G (va_A (wOB G a o ++ wOB G b v) sz) (fun (u : OB × OB) => (wOB G a u.1 ++ wOB G b u.2))) (va_A (wOB G a o ++ wOB G b v) sz)) 0 0 (va_A (wOB G a o ++ wOB G b v) sz) := by
  refine ms_i (cc := cL_alike) (maxL := 2) (ret := some .boolean) (post := (fun (r : Int32) (u : OB × OB) => (r = 0 ∨ r = 1) ∧ Q r u.1 u.2)) (w1 := (fun (u : OB × OB) => (wOB G a u.1 ++ wOB G b u.2))) (by decide) rfl (Nat.le_of_ble_eq_true rfl) ?_ sz
  intro p e s m below meth c A ls H locs hx hb hr hml hown hts hlocks hK hG hP hD hS hA hl
  have hown : s.vm.findClass RL = some m.cls := hown
  have hl : lv_has ls 2 [(0, .ref (a 0)), (1, .ref (b 0))] := hl
  unfold wb_L_alike at hw
  refine lv_aload_n hx hb dL_alike_0 rfl (lv_at hl 0 rfl) ?_
  refine kbL_X5_digest a b o v  hw ⟨hx, hb, hml, hown, hts⟩ (cwV 0 hts gL_alike_X5_digest rfl rfl rfl (by decide +kernel) ⟨Nat.le_of_ble_eq_true rfl, Nat.le_of_ble_eq_true rfl⟩) hK hG hP hD hS hA hl.1 (Nat.le_of_ble_eq_true rfl) dL_alike_1 ⟨by show _ ≤ 0; omega, by show _ ≤ 0; omega⟩ (fun r1 o2 H locs hw hP hD hS => ?_)
  refine lv_aload_n hx hb dL_alike_4 rfl (lv_at hl 1 rfl) ?_
  refine kbR_X5_digest a b o2 v  hw ⟨hx, hb, hml, hown, hts⟩ (cwV 0 hts gL_alike_X5_digest rfl rfl rfl (by decide +kernel) ⟨Nat.le_of_ble_eq_true rfl, Nat.le_of_ble_eq_true rfl⟩) hK hG hP hD hS hA hl.1 (Nat.le_of_ble_eq_true rfl) dL_alike_5 ⟨by show _ ≤ 0; omega, by show _ ≤ 0; omega⟩ (fun r3 o4 H locs hw hP hD hS => ?_)
  refine W.lcmp hx hb dL_alike_8 ?_
  refine lv_if_ne (tgt := 27) hx hb dL_alike_9 (by decide) (fun cd5 => ?_) (fun cd5 => ?_)
  · have hw := hw.1 cd5
    refine lv_iconst (v := 0) hx hb dL_alike_27 (by decide) ?_
    refine W.widen (k := 0) (n := 0) (by omega) (by omega) ?_
    exact fin_z (o2, o4) hx hb hr (nz (Or.inl rfl)) hlocks hK hS hP hD ⟨(Or.inl rfl), hw⟩ dL_alike_28
  · have hw := hw.2 cd5
    refine lv_aload_n hx hb dL_alike_12 rfl (lv_at hl 0 rfl) ?_
    refine kbL_X5_firstError a b o2 o4  hw ⟨hx, hb, hml, hown, hts⟩ (cwV 0 hts gL_alike_X5_firstError rfl rfl rfl (by decide +kernel) ⟨Nat.le_of_ble_eq_true rfl, Nat.le_of_ble_eq_true rfl⟩) hK hG hP hD hS hA hl.1 (Nat.le_of_ble_eq_true rfl) dL_alike_13 ⟨by show _ ≤ 0; omega, by show _ ≤ 0; omega⟩ (fun r6 o7 H locs hw hP hD hS => ?_)
    refine lv_aload_n hx hb dL_alike_16 rfl (lv_at hl 1 rfl) ?_
    refine kbR_X5_firstError a b o7 o4  hw ⟨hx, hb, hml, hown, hts⟩ (cwV 0 hts gL_alike_X5_firstError rfl rfl rfl (by decide +kernel) ⟨Nat.le_of_ble_eq_true rfl, Nat.le_of_ble_eq_true rfl⟩) hK hG hP hD hS hA hl.1 (Nat.le_of_ble_eq_true rfl) dL_alike_17 ⟨by show _ ≤ 0; omega, by show _ ≤ 0; omega⟩ (fun r8 o9 H locs hw hP hD hS => ?_)
    refine lv_icmp_ne (tgt := 27) hx hb dL_alike_20 (by decide) (fun cd10 => ?_) (fun cd10 => ?_)
    · have hw := hw.1 cd10
      refine lv_iconst (v := 0) hx hb dL_alike_27 (by decide) ?_
      refine W.widen (k := 0) (n := 0) (by omega) (by omega) ?_
      exact fin_z (o7, o9) hx hb hr (nz (Or.inl rfl)) hlocks hK hS hP hD ⟨(Or.inl rfl), hw⟩ dL_alike_28
    · have hw := hw.2 cd10
      refine lv_iconst (v := 1) hx hb dL_alike_23 (by decide) ?_
      refine lv_goto (tgt := 28) hx hb dL_alike_24 (by decide) ?_
      refine W.widen (k := 0) (n := 0) (by omega) (by omega) ?_
      exact fin_z (o7, o9) hx hb hr (nz (Or.inr rfl)) hlocks hK hS hP hD ⟨(Or.inr rfl), hw⟩ dL_alike_28
