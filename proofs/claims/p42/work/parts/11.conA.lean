abbrev w0_X5_bit (G : mG) : va_W := []
set_option maxHeartbeats 8000000 in
set_option maxRecDepth 100000 in
theorem cn_X5_bit (l : Launch) (G : mG) (a0 : Int32) {Q : Int32 → Prop} (hw : wn_X5_bit a0 Q) (sz : Nat) :
    Met l yX5_bit wsX5_bit ({ frames := 0, cells := 0, slots := 0, locals := 0 } : Room) (va_Pc [.int a0] (mPre G (w0_X5_bit G) sz)) (va_Qi (fun (r : Int32) (u : Unit) => Q r) (mBk G (va_A (w0_X5_bit G) sz) (fun (u : Unit) => (w0_X5_bit G))) (va_A (w0_X5_bit G) sz)) 0 0 (va_A (w0_X5_bit G) sz) := by
  refine ms_i (cc := cX5_bit) (maxL := 1) (ret := some .int) (post := (fun (r : Int32) (u : Unit) => Q r)) (w1 := (fun (u : Unit) => (w0_X5_bit G))) (by decide) rfl (Nat.le_of_ble_eq_true rfl) ?_ sz
  intro p e s m below meth c A ls H locs hx hb hr hml hown hts hlocks hK hG hP hD hS hA hl
  have hown : s.vm.findClass RX5 = some m.cls := hown
  have hl : lv_has ls 1 [(0, .int a0)] := hl
  unfold wn_X5_bit at hw
  refine lv_iconst (v := 1) hx hb dX5_bit_0 (by decide) ?_
  refine lv_iload_n hx hb dX5_bit_1 rfl (lv_at hl 0 rfl) ?_
  refine lv_ishl hx hb dX5_bit_2 ?_
  exact fin_i () hx hb hr hlocks hK hS hP hD hw dX5_bit_3

abbrev w0_X5_isIn (G : mG) : va_W := []
set_option maxHeartbeats 8000000 in
set_option maxRecDepth 100000 in
theorem cn_X5_isIn (l : Launch) (G : mG) (a0 : Int32) (a1 : Int32) {Q : Int32 → Prop} (hw : wn_X5_isIn a0 a1 Q) (sz : Nat) :
    Met l yX5_isIn wsX5_isIn ({ frames := 1, cells := 0, slots := 0, locals := 20 } : Room) (va_Pc [.int a0, .int a1] (mPre G (w0_X5_isIn G) sz)) (va_Qi (fun (r : Int32) (u : Unit) => (r = 0 ∨ r = 1) ∧ Q r) (mBk G (va_A (w0_X5_isIn G) sz) (fun (u : Unit) => (w0_X5_isIn G))) (va_A (w0_X5_isIn G) sz)) 0 0 (va_A (w0_X5_isIn G) sz) := by
  refine ms_i (cc := cX5_isIn) (maxL := 2) (ret := some .boolean) (post := (fun (r : Int32) (u : Unit) => (r = 0 ∨ r = 1) ∧ Q r)) (w1 := (fun (u : Unit) => (w0_X5_isIn G))) (by decide) rfl (Nat.le_of_ble_eq_true rfl) ?_ sz
  intro p e s m below meth c A ls H locs hx hb hr hml hown hts hlocks hK hG hP hD hS hA hl
  have hown : s.vm.findClass RX5 = some m.cls := hown
  have hl : lv_has ls 2 [(0, .int a0), (1, .int a1)] := hl
  unfold wn_X5_isIn at hw
  refine lv_iload_n hx hb dX5_isIn_0 rfl (lv_at hl 0 rfl) ?_
  refine lv_iload_n hx hb dX5_isIn_1 rfl (lv_at hl 1 rfl) ?_
  refine kcR_i (kr_S [.int a0] ⟨hx, hb, hml, hown, hts⟩ (cn_X5_bit l G a1 hw H.size) (va_cwS 1 hts gX5_isIn_X5_bit rfl rfl rfl (by decide +kernel) ⟨Nat.le_of_ble_eq_true rfl, Nat.le_of_ble_eq_true rfl⟩) hK hG hP hD hS hA [] rfl rfl rfl hl.1 rfl (Nat.le_of_ble_eq_true rfl) dX5_isIn_2 ⟨Nat.le_of_ble_eq_true rfl, Nat.le_of_ble_eq_true rfl⟩) hP hD hS hA [] rfl (fun r1 u H locs hw hP hS => ?_)
  try dsimp only at hw
  refine lv_iand hx hb dX5_isIn_5 ?_
  refine lv_if_eq (tgt := 13) hx hb dX5_isIn_6 (by decide) (fun cd2 => ?_) (fun cd2 => ?_)
  · have hw := hw.1 cd2
    refine lv_iconst (v := 0) hx hb dX5_isIn_13 (by decide) ?_
    exact fin_z () hx hb hr (nz (Or.inl rfl)) hlocks hK hS hP hD ⟨(Or.inl rfl), hw⟩ dX5_isIn_14
  · have hw := hw.2 cd2
    refine lv_iconst (v := 1) hx hb dX5_isIn_9 (by decide) ?_
    refine lv_goto (tgt := 14) hx hb dX5_isIn_10 (by decide) ?_
    exact fin_z () hx hb hr (nz (Or.inr rfl)) hlocks hK hS hP hD ⟨(Or.inr rfl), hw⟩ dX5_isIn_14

abbrev w0_X0_tryDownFrom (G : mG) (qu : Nat) (qv : Nat) (uu : Nat → Int32) (vv : Nat → Int32) : va_W := [(qu, .inl (gI G, (14, .inl uu))), (qv, .inl (gI G, (14, .inl vv)))]
set_option maxRecDepth 100000 in
theorem k_X0_tryDownFrom_m42 : Cond.methodLink RX0 42 Lib.Math.max.name ∈ wsX0_tryDownFrom := by decide +kernel
set_option maxRecDepth 100000 in
theorem k_X0_tryDownFrom_mst : Cond.static Lib.Math.max.name ∈ wsX0_tryDownFrom := by decide +kernel
set_option maxRecDepth 100000 in
theorem k_X0_tryDownFrom_min : Cond.initialized "java/lang/Math" ∈ wsX0_tryDownFrom := by decide +kernel
set_option maxRecDepth 100000 in
theorem k_X0_tryDownFrom_mco : Cond.code Lib.Math.max.name Lib.Math.max.code 2 (some .int) ∈ wsX0_tryDownFrom := by decide +kernel
set_option maxHeartbeats 8000000 in
set_option maxRecDepth 100000 in
theorem cn_X0_tryDownFrom (l : Launch) (G : mG) (qu : Nat) (qv : Nat) (uu : Nat → Int32) (vv : Nat → Int32) : ∀ (d : Nat) (a0 : Int32) (a3 : Int32) {Q : Int32 → Prop} (hw : wn_X0_tryDownFrom uu vv d a0 a3 Q) (sz : Nat),
    Met l yX0_tryDownFrom wsX0_tryDownFrom ({ frames := d + 2, cells := 0, slots := 0, locals := 26 * d + 60 } : Room) (va_Pc [.int a0, .ref qu, .ref qv, .int a3] (mPre G (w0_X0_tryDownFrom G qu qv uu vv) sz)) (va_Qi (fun (r : Int32) (u : Unit) => Q r) (mBk G (va_A (w0_X0_tryDownFrom G qu qv uu vv) sz) (fun (u : Unit) => (w0_X0_tryDownFrom G qu qv uu vv))) (va_A (w0_X0_tryDownFrom G qu qv uu vv) sz)) 0 0 (va_A (w0_X0_tryDownFrom G qu qv uu vv) sz) := by
  intro d
  induction d with
  | zero =>
    intro a0 a3 Q hw
    exact False.elim hw
  | succ n ih =>
    intro a0 a3 Q hw sz
    refine ms_i (cc := cX0_tryDownFrom) (maxL := 7) (ret := some .int) (post := (fun (r : Int32) (u : Unit) => Q r)) (w1 := (fun (u : Unit) => (w0_X0_tryDownFrom G qu qv uu vv))) (by decide) rfl (Nat.le_of_ble_eq_true rfl) ?_ sz
    intro p e s m below meth c A ls H locs hx hb hr hml hown hts hlocks hK hG hP hD hS hA hl
    have hown : s.vm.findClass RX0 = some m.cls := hown
    have hl : lv_has ls 7 [(0, .int a0), (1, .ref qu), (2, .ref qv), (3, .int a3)] := hl
    rw [wn_X0_tryDownFrom] at hw
    refine lv_iload_n hx hb dX0_tryDownFrom_0 rfl (lv_at hl 0 rfl) ?_
    refine lv_if_lt (tgt := 10) hx hb dX0_tryDownFrom_1 (by decide) (fun cd1 => ?_) (fun cd1 => ?_)
    · have hw := hw.1 cd1
      refine lv_iconst (v := 0) hx hb dX0_tryDownFrom_10 (by decide) ?_
      exact fin_i () hx hb hr hlocks hK hS hP hD hw dX0_tryDownFrom_11
    · have hw := hw.2 cd1
      refine lv_iload_n hx hb dX0_tryDownFrom_4 rfl (lv_at hl 0 rfl) ?_
      refine lv_bipush (v := 14) hx hb dX0_tryDownFrom_5 (by decide) ?_
      refine lv_icmp_lt (tgt := 12) hx hb dX0_tryDownFrom_7 (by decide) (fun cd2 => ?_) (fun cd2 => ?_)
      · have hw := hw.1 cd2
        refine lv_iload_n hx hb dX0_tryDownFrom_12 rfl (lv_at hl 0 rfl) ?_
        refine lv_iconst (v := 1) hx hb dX0_tryDownFrom_13 (by decide) ?_
        refine lv_isub hx hb dX0_tryDownFrom_14 ?_
        refine lv_aload_n hx hb dX0_tryDownFrom_15 rfl (lv_at hl 1 rfl) ?_
        refine lv_aload_n hx hb dX0_tryDownFrom_16 rfl (lv_at hl 2 rfl) ?_
        refine lv_iload_n hx hb dX0_tryDownFrom_17 rfl (lv_at hl 3 rfl) ?_
        refine kcR_i (kr_S [] ⟨hx, hb, hml, hown, hts⟩ (ih (a0 - (1 : Int32)) a3 hw H.size) (va_cwS 4 hts gX0_tryDownFrom_X0_tryDownFrom rfl rfl rfl (by decide +kernel) ⟨(by first | exact Nat.le_of_ble_eq_true rfl | (dsimp only; omega) | (show _ ≤ _; omega)), (by first | exact Nat.le_of_ble_eq_true rfl | (dsimp only; omega) | (show _ ≤ _; omega))⟩) hK hG hP hD hS hA [0, 1] rfl rfl rfl hl.1 rfl (Nat.le_of_ble_eq_true rfl) dX0_tryDownFrom_18 ⟨Nat.le_of_ble_eq_true rfl, Nat.le_of_ble_eq_true rfl⟩) hP hD hS hA [0, 1] rfl (fun r3 u H locs hw hP hS => ?_)
        try dsimp only at hw
        refine lv_istore (lv' := [(4, .int r3), (0, .int a0), (1, .ref qu), (2, .ref qv), (3, .int a3)]) hx hb dX0_tryDownFrom_21 hl (by decide) rfl (fun ls hl => ?_)
        refine lv_iload_n hx hb dX0_tryDownFrom_23 rfl (lv_at hl 4 rfl) ?_
        refine lv_iload_n hx hb dX0_tryDownFrom_24 rfl (lv_at hl 1 rfl) ?_
        refine kcR_i (kr_SN [] ⟨hx, hb, hml, hown, hts⟩ (cn_X5_isIn l G a3 a0 hw H.size) ⟨(va_cnB 2 hts gX0_tryDownFrom_X5_isIn_n38 rfl rfl rfl (hG.1 (RX0, 38, yX5_isIn) (by decide +kernel)) (hts (.initialized RX5) (by decide +kernel)) (by decide +kernel) ⟨(by first | exact Nat.le_of_ble_eq_true rfl | (dsimp only; omega) | (show _ ≤ _; omega)), (by first | exact Nat.le_of_ble_eq_true rfl | (dsimp only; omega) | (show _ ≤ _; omega))⟩), hts (.static yX5_isIn) (by decide +kernel)⟩ hK hG hP hD hS hA [] rfl rfl rfl hl.1 rfl (Nat.le_of_ble_eq_true rfl) dX0_tryDownFrom_25 ⟨Nat.le_of_ble_eq_true rfl, Nat.le_of_ble_eq_true rfl⟩) hP hD hS hA [] rfl (fun r4 u H locs hw hP hS => ?_)
        try dsimp only at hw
        obtain ⟨hz_r4, hw⟩ := hw
        refine lv_if_eq (tgt := 34) hx hb dX0_tryDownFrom_28 (by decide) (fun cd5 => ?_) (fun cd5 => ?_)
        · have hw := hw.1 cd5
          refine lv_iload_n hx hb dX0_tryDownFrom_34 rfl (lv_at hl 4 rfl) ?_
          refine lv_aload_n hx hb dX0_tryDownFrom_35 rfl (lv_at hl 3 rfl) ?_
          refine lv_iload_n hx hb dX0_tryDownFrom_36 rfl (lv_at hl 1 rfl) ?_
          obtain ⟨h6, hw⟩ := hw
          refine va_iald hx hb hK hP 1 0 rfl rfl h6 dX0_tryDownFrom_37 ?_
          refine lv_ior hx hb dX0_tryDownFrom_38 ?_
          refine lv_istore (lv' := [(5, .int (a3 ||| (vv a0.toNatClampNeg))), (4, .int r3), (0, .int a0), (1, .ref qu), (2, .ref qv), (3, .int a3)]) hx hb dX0_tryDownFrom_39 hl (by decide) rfl (fun ls hl => ?_)
          refine lv_aload_n hx hb dX0_tryDownFrom_41 rfl (lv_at hl 3 rfl) ?_
          refine lv_iload_n hx hb dX0_tryDownFrom_42 rfl (lv_at hl 2 rfl) ?_
          obtain ⟨h7, hw⟩ := hw
          refine va_iald hx hb hK hP 0 0 rfl rfl h7 dX0_tryDownFrom_43 ?_
          refine lv_iload_n hx hb dX0_tryDownFrom_44 rfl (lv_at hl 2 rfl) ?_
          refine lv_iconst (v := 1) hx hb dX0_tryDownFrom_45 (by decide) ?_
          refine lv_isub hx hb dX0_tryDownFrom_46 ?_
          refine lv_aload_n hx hb dX0_tryDownFrom_47 rfl (lv_at hl 3 rfl) ?_
          refine lv_aload_n hx hb dX0_tryDownFrom_48 rfl (lv_at hl 4 rfl) ?_
          refine lv_iload hx hb dX0_tryDownFrom_49 (lv_at hl 0 rfl) ?_
          refine kcR_i (kr_S [.int (uu a0.toNatClampNeg)] ⟨hx, hb, hml, hown, hts⟩ (ih (a0 - (1 : Int32)) (a3 ||| (vv a0.toNatClampNeg)) hw H.size) (va_cwS 4 hts gX0_tryDownFrom_X0_tryDownFrom rfl rfl rfl (by decide +kernel) ⟨(by first | exact Nat.le_of_ble_eq_true rfl | (dsimp only; omega) | (show _ ≤ _; omega)), (by first | exact Nat.le_of_ble_eq_true rfl | (dsimp only; omega) | (show _ ≤ _; omega))⟩) hK hG hP hD hS hA [0, 1] rfl rfl rfl hl.1 rfl (Nat.le_of_ble_eq_true rfl) dX0_tryDownFrom_51 ⟨Nat.le_of_ble_eq_true rfl, Nat.le_of_ble_eq_true rfl⟩) hP hD hS hA [0, 1] rfl (fun r8 u H locs hw hP hS => ?_)
          try dsimp only at hw
          refine lv_iadd hx hb dX0_tryDownFrom_54 ?_
          refine lv_istore (lv' := [(6, .int ((uu a0.toNatClampNeg) + r8)), (5, .int (a3 ||| (vv a0.toNatClampNeg))), (4, .int r3), (0, .int a0), (1, .ref qu), (2, .ref qv), (3, .int a3)]) hx hb dX0_tryDownFrom_55 hl (by decide) rfl (fun ls hl => ?_)
          refine lv_iload hx hb dX0_tryDownFrom_57 (lv_at hl 0 rfl) ?_
          refine lv_iload hx hb dX0_tryDownFrom_59 (lv_at hl 2 rfl) ?_
          refine va_mmax hx hb (by rw [hml]; exact hl.1.symm) hown (hts _ k_X0_tryDownFrom_m42) (hts _ k_X0_tryDownFrom_mst) (hts _ k_X0_tryDownFrom_min) (hts _ k_X0_tryDownFrom_mco) ((by first | exact Nat.le_of_ble_eq_true rfl | (dsimp only; omega) | (show _ ≤ _; omega))) ((by first | exact Nat.le_of_ble_eq_true rfl | (dsimp only; omega) | (show _ ≤ _; omega))) (Nat.le_of_ble_eq_true rfl) (Nat.le_of_ble_eq_true rfl) dX0_tryDownFrom_61 ?_
          exact fin_i () hx hb hr hlocks hK hS hP hD hw dX0_tryDownFrom_64
        · have hw := hw.2 cd5
          refine lv_iload hx hb dX0_tryDownFrom_31 (lv_at hl 0 rfl) ?_
          exact fin_i () hx hb hr hlocks hK hS hP hD hw dX0_tryDownFrom_33
      · have hw := hw.2 cd2
        refine lv_iconst (v := 0) hx hb dX0_tryDownFrom_10 (by decide) ?_
        exact fin_i () hx hb hr hlocks hK hS hP hD hw dX0_tryDownFrom_11

abbrev w0_X1_clashWithTimes (G : mG) (qd : Nat) (qdb : Nat) (qde : Nat) (qdf : Nat) (db : Nat → Int32) (de : Nat → Int32) (df : Nat → Int32) (dc : Int32) (dp : Int32) (dk : Int32) : va_W := [(qd, .inr (1, [.ref qdb, .ref qde, .ref qdf, .int dc, .int dp, .int dk])), (qdb, .inl (gI G, (14, .inl db))), (qde, .inl (gI G, (14, .inl de))), (qdf, .inl (gI G, (14, .inl df)))]
set_option maxRecDepth 100000 in
theorem k_X1_clashWithTimes_inX1 : ∀ w ∈ u_ws RX1 TX1 6, w ∈ wsX1_clashWithTimes := by decide +kernel
set_option maxRecDepth 100000 in
theorem k_X1_clashWithTimes_f15 : Cond.fieldLink RX1 15 "RehearsalRoom$Day" "ends" "[I" ∈ wsX1_clashWithTimes := by decide +kernel
set_option maxRecDepth 100000 in
theorem k_X1_clashWithTimes_f9 : Cond.fieldLink RX1 9 "RehearsalRoom$Day" "begins" "[I" ∈ wsX1_clashWithTimes := by decide +kernel
set_option maxHeartbeats 8000000 in
set_option maxRecDepth 100000 in
theorem cn_X1_clashWithTimes (l : Launch) (G : mG) (qd : Nat) (qdb : Nat) (qde : Nat) (qdf : Nat) (db : Nat → Int32) (de : Nat → Int32) (df : Nat → Int32) (dc : Int32) (dp : Int32) (dk : Int32) (a1 : Int32) (a2 : Int32) (a3 : Int32) (a4 : Int32) {Q : Int32 → Prop} (hw : wn_X1_clashWithTimes db de a1 a2 a3 a4 Q) (sz : Nat) :
    Met l yX1_clashWithTimes wsX1_clashWithTimes ({ frames := 0, cells := 0, slots := 0, locals := 0 } : Room) (va_Pc [.ref qd, .int a1, .int a2, .int a3, .int a4] (mPre G (w0_X1_clashWithTimes G qd qdb qde qdf db de df dc dp dk) sz)) (va_Qi (fun (r : Int32) (u : Unit) => (r = 0 ∨ r = 1) ∧ Q r) (mBk G (va_A (w0_X1_clashWithTimes G qd qdb qde qdf db de df dc dp dk) sz) (fun (u : Unit) => (w0_X1_clashWithTimes G qd qdb qde qdf db de df dc dp dk))) (va_A (w0_X1_clashWithTimes G qd qdb qde qdf db de df dc dp dk) sz)) 0 0 (va_A (w0_X1_clashWithTimes G qd qdb qde qdf db de df dc dp dk) sz) := by
  refine ms_i (cc := cX1_clashWithTimes) (maxL := 5) (ret := some .boolean) (post := (fun (r : Int32) (u : Unit) => (r = 0 ∨ r = 1) ∧ Q r)) (w1 := (fun (u : Unit) => (w0_X1_clashWithTimes G qd qdb qde qdf db de df dc dp dk))) (by decide) rfl (Nat.le_of_ble_eq_true rfl) ?_ sz
  intro p e s m below meth c A ls H locs hx hb hr hml hown hts hlocks hK hG hP hD hS hA hl
  have hown : s.vm.findClass RX1 = some m.cls := hown
  have hl : lv_has ls 5 [(0, .ref qd), (1, .int a1), (2, .int a2), (3, .int a3), (4, .int a4)] := hl
  unfold wn_X1_clashWithTimes at hw
  refine lv_aload_n hx hb dX1_clashWithTimes_0 rfl (lv_at hl 0 rfl) ?_
  refine va_get (D := gD G) (ci := 1) (v := .ref qde) (C := RX1) (T := TX1) (N := 6) hx hb hts k_X1_clashWithTimes_inX1 hown hK hP 0 rfl rfl 1 (by decide) (hts _ k_X1_clashWithTimes_f15) (fun _ h9 => h9) rfl dX1_clashWithTimes_1 ?_
  refine lv_iload_n hx hb dX1_clashWithTimes_4 rfl (lv_at hl 1 rfl) ?_
  obtain ⟨h1, hw⟩ := hw
  refine va_iald hx hb hK hP 2 0 rfl rfl h1 dX1_clashWithTimes_5 ?_
  refine lv_iload hx hb dX1_clashWithTimes_6 (lv_at hl 4 rfl) ?_
  refine lv_iadd hx hb dX1_clashWithTimes_8 ?_
  refine lv_iload_n hx hb dX1_clashWithTimes_9 rfl (lv_at hl 2 rfl) ?_
  refine lv_icmp_le (tgt := 30) hx hb dX1_clashWithTimes_10 (by decide) (fun cd2 => ?_) (fun cd2 => ?_)
  · have hw := hw.1 cd2
    refine lv_iconst (v := 0) hx hb dX1_clashWithTimes_30 (by decide) ?_
    exact fin_z () hx hb hr (nz (Or.inl rfl)) hlocks hK hS hP hD ⟨(Or.inl rfl), hw⟩ dX1_clashWithTimes_31
  · have hw := hw.2 cd2
    refine lv_iload_n hx hb dX1_clashWithTimes_13 rfl (lv_at hl 3 rfl) ?_
    refine lv_iload hx hb dX1_clashWithTimes_14 (lv_at hl 4 rfl) ?_
    refine lv_iadd hx hb dX1_clashWithTimes_16 ?_
    refine lv_aload_n hx hb dX1_clashWithTimes_17 rfl (lv_at hl 0 rfl) ?_
    refine va_get (D := gD G) (ci := 1) (v := .ref qdb) (C := RX1) (T := TX1) (N := 6) hx hb hts k_X1_clashWithTimes_inX1 hown hK hP 0 rfl rfl 0 (by decide) (hts _ k_X1_clashWithTimes_f9) (fun _ h9 => h9) rfl dX1_clashWithTimes_18 ?_
    refine lv_iload_n hx hb dX1_clashWithTimes_21 rfl (lv_at hl 1 rfl) ?_
    obtain ⟨h3, hw⟩ := hw
    refine va_iald hx hb hK hP 1 0 rfl rfl h3 dX1_clashWithTimes_22 ?_
    refine lv_icmp_le (tgt := 30) hx hb dX1_clashWithTimes_23 (by decide) (fun cd4 => ?_) (fun cd4 => ?_)
    · have hw := hw.1 cd4
      refine lv_iconst (v := 0) hx hb dX1_clashWithTimes_30 (by decide) ?_
      exact fin_z () hx hb hr (nz (Or.inl rfl)) hlocks hK hS hP hD ⟨(Or.inl rfl), hw⟩ dX1_clashWithTimes_31
    · have hw := hw.2 cd4
      refine lv_iconst (v := 1) hx hb dX1_clashWithTimes_26 (by decide) ?_
      refine lv_goto (tgt := 31) hx hb dX1_clashWithTimes_27 (by decide) ?_
      exact fin_z () hx hb hr (nz (Or.inr rfl)) hlocks hK hS hP hD ⟨(Or.inr rfl), hw⟩ dX1_clashWithTimes_31

abbrev w0_X1_clash (G : mG) (qd : Nat) (qdb : Nat) (qde : Nat) (qdf : Nat) (db : Nat → Int32) (de : Nat → Int32) (df : Nat → Int32) (dc : Int32) (dp : Int32) (dk : Int32) : va_W := [(qd, .inr (1, [.ref qdb, .ref qde, .ref qdf, .int dc, .int dp, .int dk])), (qdb, .inl (gI G, (14, .inl db))), (qde, .inl (gI G, (14, .inl de))), (qdf, .inl (gI G, (14, .inl df)))]
set_option maxRecDepth 100000 in
theorem k_X1_clash_inX1 : ∀ w ∈ u_ws RX1 TX1 6, w ∈ wsX1_clash := by decide +kernel
set_option maxRecDepth 100000 in
theorem k_X1_clash_f9 : Cond.fieldLink RX1 9 "RehearsalRoom$Day" "begins" "[I" ∈ wsX1_clash := by decide +kernel
set_option maxRecDepth 100000 in
theorem k_X1_clash_f15 : Cond.fieldLink RX1 15 "RehearsalRoom$Day" "ends" "[I" ∈ wsX1_clash := by decide +kernel
set_option maxRecDepth 100000 in
theorem k_X1_clash_f25 : Cond.fieldLink RX1 25 "RehearsalRoom$Day" "pause" "I" ∈ wsX1_clash := by decide +kernel
set_option maxHeartbeats 8000000 in
set_option maxRecDepth 100000 in
theorem cn_X1_clash (l : Launch) (G : mG) (qd : Nat) (qdb : Nat) (qde : Nat) (qdf : Nat) (db : Nat → Int32) (de : Nat → Int32) (df : Nat → Int32) (dc : Int32) (dp : Int32) (dk : Int32) (a1 : Int32) (a2 : Int32) {Q : Int32 → Prop} (hw : wn_X1_clash db de dp a1 a2 Q) (sz : Nat) :
    Met l yX1_clash wsX1_clash ({ frames := 1, cells := 0, slots := 0, locals := 24 } : Room) (va_Pc [.ref qd, .int a1, .int a2] (mPre G (w0_X1_clash G qd qdb qde qdf db de df dc dp dk) sz)) (va_Qi (fun (r : Int32) (u : Unit) => (r = 0 ∨ r = 1) ∧ Q r) (mBk G (va_A (w0_X1_clash G qd qdb qde qdf db de df dc dp dk) sz) (fun (u : Unit) => (w0_X1_clash G qd qdb qde qdf db de df dc dp dk))) (va_A (w0_X1_clash G qd qdb qde qdf db de df dc dp dk) sz)) 0 0 (va_A (w0_X1_clash G qd qdb qde qdf db de df dc dp dk) sz) := by
  refine ms_i (cc := cX1_clash) (maxL := 3) (ret := some .boolean) (post := (fun (r : Int32) (u : Unit) => (r = 0 ∨ r = 1) ∧ Q r)) (w1 := (fun (u : Unit) => (w0_X1_clash G qd qdb qde qdf db de df dc dp dk))) (by decide) rfl (Nat.le_of_ble_eq_true rfl) ?_ sz
  intro p e s m below meth c A ls H locs hx hb hr hml hown hts hlocks hK hG hP hD hS hA hl
  have hown : s.vm.findClass RX1 = some m.cls := hown
  have hl : lv_has ls 3 [(0, .ref qd), (1, .int a1), (2, .int a2)] := hl
  unfold wn_X1_clash at hw
  refine lv_iload_n hx hb dX1_clash_0 rfl (lv_at hl 1 rfl) ?_
  refine lv_iload_n hx hb dX1_clash_1 rfl (lv_at hl 2 rfl) ?_
  refine lv_icmp_eq (tgt := 33) hx hb dX1_clash_2 (by decide) (fun cd1 => ?_) (fun cd1 => ?_)
  · have hw := hw.1 cd1
    refine lv_iconst (v := 0) hx hb dX1_clash_33 (by decide) ?_
    exact fin_z () hx hb hr (nz (Or.inl rfl)) hlocks hK hS hP hD ⟨(Or.inl rfl), hw⟩ dX1_clash_34
  · have hw := hw.2 cd1
    refine lv_aload_n hx hb dX1_clash_5 rfl (lv_at hl 0 rfl) ?_
    refine lv_iload_n hx hb dX1_clash_6 rfl (lv_at hl 1 rfl) ?_
    refine lv_aload_n hx hb dX1_clash_7 rfl (lv_at hl 0 rfl) ?_
    refine va_get (D := gD G) (ci := 1) (v := .ref qdb) (C := RX1) (T := TX1) (N := 6) hx hb hts k_X1_clash_inX1 hown hK hP 0 rfl rfl 0 (by decide) (hts _ k_X1_clash_f9) (fun _ h9 => h9) rfl dX1_clash_8 ?_
    refine lv_iload_n hx hb dX1_clash_11 rfl (lv_at hl 2 rfl) ?_
    obtain ⟨h2, hw⟩ := hw
    refine va_iald hx hb hK hP 1 0 rfl rfl h2 dX1_clash_12 ?_
    refine lv_aload_n hx hb dX1_clash_13 rfl (lv_at hl 0 rfl) ?_
    refine va_get (D := gD G) (ci := 1) (v := .ref qde) (C := RX1) (T := TX1) (N := 6) hx hb hts k_X1_clash_inX1 hown hK hP 0 rfl rfl 1 (by decide) (hts _ k_X1_clash_f15) (fun _ h9 => h9) rfl dX1_clash_14 ?_
    refine lv_iload_n hx hb dX1_clash_17 rfl (lv_at hl 2 rfl) ?_
    obtain ⟨h3, hw⟩ := hw
    refine va_iald hx hb hK hP 2 0 rfl rfl h3 dX1_clash_18 ?_
    refine lv_aload_n hx hb dX1_clash_19 rfl (lv_at hl 0 rfl) ?_
    refine va_get (D := gD G) (ci := 1) (v := .int dp) (C := RX1) (T := TX1) (N := 6) hx hb hts k_X1_clash_inX1 hown hK hP 0 rfl rfl 4 (by decide) (hts _ k_X1_clash_f25) (fun _ h9 => h9) rfl dX1_clash_20 ?_
    refine kcR_i (kr_V [] ⟨hx, hb, hml, hown, hts⟩ (cn_X1_clashWithTimes l G qd qdb qde qdf db de df dc dp dk a1 (db a2.toNatClampNeg) (de a2.toNatClampNeg) dp hw H.size) (cwV 4 hts gX1_clash_X1_clashWithTimes rfl rfl rfl (by decide +kernel) ⟨Nat.le_of_ble_eq_true rfl, Nat.le_of_ble_eq_true rfl⟩) hK hG hP hD hS hA [0, 1, 2, 3] rfl rfl 1 0 rfl rfl rfl hl.1 rfl (Nat.le_of_ble_eq_true rfl) dX1_clash_23 ⟨Nat.le_of_ble_eq_true rfl, Nat.le_of_ble_eq_true rfl⟩) hP hD hS hA [0, 1, 2, 3] rfl (fun r4 u H locs hw hP hS => ?_)
    try dsimp only at hw
    obtain ⟨hz_r4, hw⟩ := hw
    refine lv_if_eq (tgt := 33) hx hb dX1_clash_26 (by decide) (fun cd5 => ?_) (fun cd5 => ?_)
    · have hw := hw.1 cd5
      refine lv_iconst (v := 0) hx hb dX1_clash_33 (by decide) ?_
      exact fin_z () hx hb hr (nz (Or.inl rfl)) hlocks hK hS hP hD ⟨(Or.inl rfl), hw⟩ dX1_clash_34
    · have hw := hw.2 cd5
      refine lv_iconst (v := 1) hx hb dX1_clash_29 (by decide) ?_
      refine lv_goto (tgt := 34) hx hb dX1_clash_30 (by decide) ?_
      exact fin_z () hx hb hr (nz (Or.inr rfl)) hlocks hK hS hP hD ⟨(Or.inr rfl), hw⟩ dX1_clash_34

abbrev w0_X1_conflictsWith (G : mG) (qd : Nat) (qdb : Nat) (qde : Nat) (qdf : Nat) (db : Nat → Int32) (de : Nat → Int32) (df : Nat → Int32) (dc : Int32) (dp : Int32) (dk : Int32) : va_W := [(qd, .inr (1, [.ref qdb, .ref qde, .ref qdf, .int dc, .int dp, .int dk])), (qdb, .inl (gI G, (14, .inl db))), (qde, .inl (gI G, (14, .inl de))), (qdf, .inl (gI G, (14, .inl df)))]
set_option maxRecDepth 100000 in
theorem k_X1_conflictsWith_inX1 : ∀ w ∈ u_ws RX1 TX1 6, w ∈ wsX1_conflictsWith := by decide +kernel
set_option maxRecDepth 100000 in
theorem k_X1_conflictsWith_f21 : Cond.fieldLink RX1 21 "RehearsalRoom$Day" "count" "I" ∈ wsX1_conflictsWith := by decide +kernel
set_option maxHeartbeats 8000000 in
set_option maxRecDepth 100000 in
theorem cn_X1_conflictsWith (l : Launch) (G : mG) (qd : Nat) (qdb : Nat) (qde : Nat) (qdf : Nat) (db : Nat → Int32) (de : Nat → Int32) (df : Nat → Int32) (dc : Int32) (dp : Int32) (dk : Int32) (a1 : Int32) {Q : Int32 → Prop} (hw : wn_X1_conflictsWith db de dc dp a1 Q) (sz : Nat) :
    Met l yX1_conflictsWith wsX1_conflictsWith ({ frames := 2, cells := 0, slots := 0, locals := 46 } : Room) (va_Pc [.ref qd, .int a1] (mPre G (w0_X1_conflictsWith G qd qdb qde qdf db de df dc dp dk) sz)) (va_Qi (fun (r : Int32) (u : Unit) => Q r) (mBk G (va_A (w0_X1_conflictsWith G qd qdb qde qdf db de df dc dp dk) sz) (fun (u : Unit) => (w0_X1_conflictsWith G qd qdb qde qdf db de df dc dp dk))) (va_A (w0_X1_conflictsWith G qd qdb qde qdf db de df dc dp dk) sz)) 0 0 (va_A (w0_X1_conflictsWith G qd qdb qde qdf db de df dc dp dk) sz) := by
  refine ms_i (cc := cX1_conflictsWith) (maxL := 4) (ret := some .int) (post := (fun (r : Int32) (u : Unit) => Q r)) (w1 := (fun (u : Unit) => (w0_X1_conflictsWith G qd qdb qde qdf db de df dc dp dk))) (by decide) rfl (Nat.le_of_ble_eq_true rfl) ?_ sz
  intro p e s m below meth c A ls H locs hx hb hr hml hown hts hlocks hK hG hP hD hS hA hl
  have hown : s.vm.findClass RX1 = some m.cls := hown
  have hl : lv_has ls 4 [(0, .ref qd), (1, .int a1)] := hl
  have J4 : ∀ (n : Nat) (x1 : Int32) (x2 : Int32) (x3 : Int32) (H : Heap) (locs : List Loc) (ls : Array Slot), va_P (gD G) vwCl (w0_X1_conflictsWith G qd qdb qde qdf db de df dc dp dk) H → va_D A (w0_X1_conflictsWith G qd qdb qde qdf db de df dc dp dk) → va_S A s.heap H locs → lv_has ls 4 [(0, .ref qd), (1, .int x1), (2, .int x2), (3, .int x3)] → wl_n_X1_conflictsWith_4 db de dc dp Q n x1 x2 x3 → W p l e ({ frames := 2, cells := 0, slots := 0, locals := 46 } : Room) s m ([.ref qd, .int a1] : List Value).toArray below meth c H locs 0 0 (MQ below (va_Qi (fun (r : Int32) (u : Unit) => Q r) (mBk G A (fun (u : Unit) => (w0_X1_conflictsWith G qd qdb qde qdf db de df dc dp dk))) A) ([.ref qd, .int a1] : List Value).toArray s 0 0 A) (F0 m 4 ls []) := by
    intro n
    induction n with
    | zero => intro x1 x2 x3 H locs ls hP hD hS hl hw; exact False.elim hw
    | succ n ih =>
      intro x1 x2 x3 H locs ls hP hD hS hl hw
      rw [wl_n_X1_conflictsWith_4] at hw
      refine lv_iload_n hx hb dX1_conflictsWith_4 rfl (lv_at hl 3 rfl) ?_
      refine lv_aload_n hx hb dX1_conflictsWith_5 rfl (lv_at hl 0 rfl) ?_
      refine va_get (D := gD G) (ci := 1) (v := .int dc) (C := RX1) (T := TX1) (N := 6) hx hb hts k_X1_conflictsWith_inX1 hown hK hP 0 rfl rfl 3 (by decide) (hts _ k_X1_conflictsWith_f21) (fun _ h9 => h9) rfl dX1_conflictsWith_6 ?_
      refine lv_icmp_ge (tgt := 34) hx hb dX1_conflictsWith_9 (by decide) (fun cd1 => ?_) (fun cd1 => ?_)
      · have hw := hw.1 cd1
        refine lv_iload_n hx hb dX1_conflictsWith_34 rfl (lv_at hl 2 rfl) ?_
        exact fin_i () hx hb hr hlocks hK hS hP hD hw dX1_conflictsWith_35
      · have hw := hw.2 cd1
        refine lv_aload_n hx hb dX1_conflictsWith_12 rfl (lv_at hl 0 rfl) ?_
        refine lv_iload_n hx hb dX1_conflictsWith_13 rfl (lv_at hl 1 rfl) ?_
        refine lv_iload_n hx hb dX1_conflictsWith_14 rfl (lv_at hl 3 rfl) ?_
        refine kcR_i (kr_V [] ⟨hx, hb, hml, hown, hts⟩ (cn_X1_clash l G qd qdb qde qdf db de df dc dp dk x1 x3 hw H.size) (cwV 2 hts gX1_conflictsWith_X1_clash rfl rfl rfl (by decide +kernel) ⟨Nat.le_of_ble_eq_true rfl, Nat.le_of_ble_eq_true rfl⟩) hK hG hP hD hS hA [0, 1, 2, 3] rfl rfl 1 0 rfl rfl rfl hl.1 rfl (Nat.le_of_ble_eq_true rfl) dX1_conflictsWith_15 ⟨Nat.le_of_ble_eq_true rfl, Nat.le_of_ble_eq_true rfl⟩) hP hD hS hA [0, 1, 2, 3] rfl (fun r2 u H locs hw hP hS => ?_)
        try dsimp only at hw
        obtain ⟨hz_r2, hw⟩ := hw
        refine lv_if_eq (tgt := 28) hx hb dX1_conflictsWith_18 (by decide) (fun cd3 => ?_) (fun cd3 => ?_)
        · have hw := hw.1 cd3
          refine lv_iinc (v := (x3 + 1)) (lv' := [(3, .int (x3 + 1)), (0, .ref qd), (1, .int x1), (2, .int x2)]) hx hb dX1_conflictsWith_28 hl (k := 3) rfl rfl (by decide) rfl (fun ls hl => ?_)
          refine lv_goto (tgt := 4) hx hb dX1_conflictsWith_31 (by decide) ?_
          exact ih x1 x2 (x3 + 1) _ _ _ hP hD hS (lv_sub hl [1, 2, 3, 0] rfl) hw
        · have hw := hw.2 cd3
          refine lv_iload_n hx hb dX1_conflictsWith_21 rfl (lv_at hl 2 rfl) ?_
          refine lv_iload_n hx hb dX1_conflictsWith_22 rfl (lv_at hl 3 rfl) ?_
          refine kcR_i (kr_SN [.int x2] ⟨hx, hb, hml, hown, hts⟩ (cn_X5_bit l G x3 hw H.size) ⟨(va_cnB 1 hts gX1_conflictsWith_X5_bit_n35 rfl rfl rfl (hG.1 (RX1, 35, yX5_bit) (by decide +kernel)) (hts (.initialized RX5) (by decide +kernel)) (by decide +kernel) ⟨Nat.le_of_ble_eq_true rfl, Nat.le_of_ble_eq_true rfl⟩), hts (.static yX5_bit) (by decide +kernel)⟩ hK hG hP hD hS hA [] rfl rfl rfl hl.1 rfl (Nat.le_of_ble_eq_true rfl) dX1_conflictsWith_23 ⟨Nat.le_of_ble_eq_true rfl, Nat.le_of_ble_eq_true rfl⟩) hP hD hS hA [] rfl (fun r4 u H locs hw hP hS => ?_)
          try dsimp only at hw
          refine lv_ior hx hb dX1_conflictsWith_26 ?_
          refine lv_istore_n (lv' := [(2, .int (x2 ||| r4)), (0, .ref qd), (1, .int x1), (3, .int x3)]) hx hb dX1_conflictsWith_27 rfl hl (by decide) rfl (fun ls hl => ?_)
          refine lv_iinc (v := (x3 + 1)) (lv' := [(3, .int (x3 + 1)), (2, .int (x2 ||| r4)), (0, .ref qd), (1, .int x1)]) hx hb dX1_conflictsWith_28 hl (k := 3) rfl rfl (by decide) rfl (fun ls hl => ?_)
          refine lv_goto (tgt := 4) hx hb dX1_conflictsWith_31 (by decide) ?_
          exact ih x1 (x2 ||| r4) (x3 + 1) _ _ _ hP hD hS (lv_sub hl [2, 3, 1, 0] rfl) hw
  unfold wn_X1_conflictsWith at hw
  refine lv_iconst (v := 0) hx hb dX1_conflictsWith_0 (by decide) ?_
  refine lv_istore_n (lv' := [(2, .int (0 : Int32)), (0, .ref qd), (1, .int a1)]) hx hb dX1_conflictsWith_1 rfl hl (by decide) rfl (fun ls hl => ?_)
  refine lv_iconst (v := 0) hx hb dX1_conflictsWith_2 (by decide) ?_
  refine lv_istore_n (lv' := [(3, .int (0 : Int32)), (2, .int (0 : Int32)), (0, .ref qd), (1, .int a1)]) hx hb dX1_conflictsWith_3 rfl hl (by decide) rfl (fun ls hl => ?_)
  obtain ⟨n4, hw⟩ := hw
  exact J4 n4 a1 (0 : Int32) (0 : Int32) _ _ _ hP hD hS (lv_sub hl [2, 3, 1, 0] rfl) hw

abbrev w0_X0_triedFame (G : mG) (qx : Nat) (qxo : Nat) (qxc : Nat) (qxt : Nat) (qd : Nat) (qdb : Nat) (qde : Nat) (qdf : Nat) (ho : Nat → Int32) (hc : Nat → Int32) (ht : Nat → Int32) (db : Nat → Int32) (de : Nat → Int32) (df : Nat → Int32) (dc : Int32) (dp : Int32) (dk : Int32) : va_W := [(qx, .inr (0, [.ref qxo, .ref qxc, .ref qxt])), (qxo, .inl (gI G, (14, .inl ho))), (qxc, .inl (gI G, (14, .inl hc))), (qxt, .inl (gI G, (15, .inl ht))), (qd, .inr (1, [.ref qdb, .ref qde, .ref qdf, .int dc, .int dp, .int dk])), (qdb, .inl (gI G, (14, .inl db))), (qde, .inl (gI G, (14, .inl de))), (qdf, .inl (gI G, (14, .inl df)))]
set_option maxRecDepth 100000 in
theorem k_X0_triedFame_inX1 : ∀ w ∈ u_ws RX1 TX1 6, w ∈ wsX0_triedFame := by decide +kernel
set_option maxRecDepth 100000 in
theorem k_X0_triedFame_f21 : Cond.fieldLink RX0 21 "RehearsalRoom$Day" "count" "I" ∈ wsX0_triedFame := by decide +kernel
set_option maxRecDepth 100000 in
theorem k_X0_triedFame_f31 : Cond.fieldLink RX0 31 "RehearsalRoom$Day" "fames" "[I" ∈ wsX0_triedFame := by decide +kernel
set_option maxRecDepth 100000 in
theorem k_X0_triedFame_inX0 : ∀ w ∈ u_ws RX0 TX0 3, w ∈ wsX0_triedFame := by decide +kernel
set_option maxRecDepth 100000 in
theorem k_X0_triedFame_f15 : Cond.fieldLink RX0 15 "RehearsalRoom$Choices" "conflicts" "[I" ∈ wsX0_triedFame := by decide +kernel
set_option maxHeartbeats 8000000 in
set_option maxRecDepth 100000 in
theorem cn_X0_triedFame (l : Launch) (G : mG) (qx : Nat) (qxo : Nat) (qxc : Nat) (qxt : Nat) (qd : Nat) (qdb : Nat) (qde : Nat) (qdf : Nat) (ho : Nat → Int32) (hc : Nat → Int32) (ht : Nat → Int32) (db : Nat → Int32) (de : Nat → Int32) (df : Nat → Int32) (dc : Int32) (dp : Int32) (dk : Int32) {Q : Int32 → (Nat → Int32) → Prop} (hw : wn_X0_triedFame hc db de df dc dp Q) (sz : Nat) :
    Met l yX0_triedFame wsX0_triedFame ({ frames := 19, cells := 0, slots := 0, locals := 502 } : Room) (va_Pc [.ref qx, .ref qd] (mPre G (w0_X0_triedFame G qx qxo qxc qxt qd qdb qde qdf ho hc ht db de df dc dp dk) sz)) (va_Qi (fun (r : Int32) (u : (Nat → Int32)) => Q r u) (mBk G (va_A (w0_X0_triedFame G qx qxo qxc qxt qd qdb qde qdf ho hc ht db de df dc dp dk) sz) (fun (u : (Nat → Int32)) => (w0_X0_triedFame G qx qxo qxc qxt qd qdb qde qdf ho u ht db de df dc dp dk))) (va_A (w0_X0_triedFame G qx qxo qxc qxt qd qdb qde qdf ho hc ht db de df dc dp dk) sz)) 0 0 (va_A (w0_X0_triedFame G qx qxo qxc qxt qd qdb qde qdf ho hc ht db de df dc dp dk) sz) := by
  refine ms_i (cc := cX0_triedFame) (maxL := 3) (ret := some .int) (post := (fun (r : Int32) (u : (Nat → Int32)) => Q r u)) (w1 := (fun (u : (Nat → Int32)) => (w0_X0_triedFame G qx qxo qxc qxt qd qdb qde qdf ho u ht db de df dc dp dk))) (by decide) rfl (Nat.le_of_ble_eq_true rfl) ?_ sz
  intro p e s m below meth c A ls H locs hx hb hr hml hown hts hlocks hK hG hP hD hS hA hl
  have hown : s.vm.findClass RX0 = some m.cls := hown
  have hl : lv_has ls 3 [(0, .ref qx), (1, .ref qd)] := hl
  have J2 : ∀ (n : Nat) (hc : Nat → Int32) (x2 : Int32) (H : Heap) (locs : List Loc) (ls : Array Slot), va_P (gD G) vwCl (w0_X0_triedFame G qx qxo qxc qxt qd qdb qde qdf ho hc ht db de df dc dp dk) H → va_D A (w0_X0_triedFame G qx qxo qxc qxt qd qdb qde qdf ho hc ht db de df dc dp dk) → va_S A s.heap H locs → lv_has ls 3 [(0, .ref qx), (1, .ref qd), (2, .int x2)] → wl_n_X0_triedFame_2 db de df dc dp Q n hc x2 → W p l e ({ frames := 19, cells := 0, slots := 0, locals := 502 } : Room) s m ([.ref qx, .ref qd] : List Value).toArray below meth c H locs 0 0 (MQ below (va_Qi (fun (r : Int32) (u : (Nat → Int32)) => Q r u) (mBk G A (fun (u : (Nat → Int32)) => (w0_X0_triedFame G qx qxo qxc qxt qd qdb qde qdf ho u ht db de df dc dp dk))) A) ([.ref qx, .ref qd] : List Value).toArray s 0 0 A) (F0 m 2 ls []) := by
    intro n
    induction n with
    | zero => intro hc x2 H locs ls hP hD hS hl hw; exact False.elim hw
    | succ n ih =>
      intro hc x2 H locs ls hP hD hS hl hw
      rw [wl_n_X0_triedFame_2] at hw
      refine lv_iload_n hx hb dX0_triedFame_2 rfl (lv_at hl 2 rfl) ?_
      refine lv_aload_n hx hb dX0_triedFame_3 rfl (lv_at hl 1 rfl) ?_
      refine va_get (D := gD G) (ci := 1) (v := .int dc) (C := RX1) (T := TX1) (N := 6) hx hb hts k_X0_triedFame_inX1 hown hK hP 4 rfl rfl 3 (by decide) (hts _ k_X0_triedFame_f21) (fun _ h9 => h9) rfl dX0_triedFame_4 ?_
      refine lv_icmp_ge (tgt := 27) hx hb dX0_triedFame_7 (by decide) (fun cd1 => ?_) (fun cd1 => ?_)
      · have hw := hw.1 cd1
        refine lv_aload_n hx hb dX0_triedFame_27 rfl (lv_at hl 1 rfl) ?_
        refine va_get (D := gD G) (ci := 1) (v := .int dc) (C := RX1) (T := TX1) (N := 6) hx hb hts k_X0_triedFame_inX1 hown hK hP 4 rfl rfl 3 (by decide) (hts _ k_X0_triedFame_f21) (fun _ h9 => h9) rfl dX0_triedFame_28 ?_
        refine lv_iconst (v := 1) hx hb dX0_triedFame_31 (by decide) ?_
        refine lv_isub hx hb dX0_triedFame_32 ?_
        refine lv_aload_n hx hb dX0_triedFame_33 rfl (lv_at hl 1 rfl) ?_
        refine va_get (D := gD G) (ci := 1) (v := .ref qdf) (C := RX1) (T := TX1) (N := 6) hx hb hts k_X0_triedFame_inX1 hown hK hP 4 rfl rfl 2 (by decide) (hts _ k_X0_triedFame_f31) (fun _ h9 => h9) rfl dX0_triedFame_34 ?_
        refine lv_aload_n hx hb dX0_triedFame_37 rfl (lv_at hl 0 rfl) ?_
        refine va_get (D := gD G) (ci := 0) (v := .ref qxc) (C := RX0) (T := TX0) (N := 3) hx hb hts k_X0_triedFame_inX0 hown hK hP 0 rfl rfl 1 (by decide) (hts _ k_X0_triedFame_f15) (fun _ h9 => h9) rfl dX0_triedFame_38 ?_
        refine lv_iconst (v := 0) hx hb dX0_triedFame_41 (by decide) ?_
        refine kcR_i (kr_S [] ⟨hx, hb, hml, hown, hts⟩ (cn_X0_tryDownFrom l G qdf qxc df hc 16 (dc - (1 : Int32)) (0 : Int32) hw H.size) (va_cwS 4 hts gX0_triedFame_X0_tryDownFrom rfl rfl rfl (by decide +kernel) ⟨Nat.le_of_ble_eq_true rfl, Nat.le_of_ble_eq_true rfl⟩) hK hG hP hD hS hA [7, 2] rfl rfl rfl hl.1 rfl (Nat.le_of_ble_eq_true rfl) dX0_triedFame_42 ⟨Nat.le_of_ble_eq_true rfl, Nat.le_of_ble_eq_true rfl⟩) hP hD hS hA [7, 2] rfl (fun r2 u H locs hw hP hS => ?_)
        try dsimp only at hw
        exact fin_i (hc) hx hb hr hlocks hK hS hP hD hw dX0_triedFame_45
      · have hw := hw.2 cd1
        refine lv_aload_n hx hb dX0_triedFame_10 rfl (lv_at hl 0 rfl) ?_
        refine va_get (D := gD G) (ci := 0) (v := .ref qxc) (C := RX0) (T := TX0) (N := 3) hx hb hts k_X0_triedFame_inX0 hown hK hP 0 rfl rfl 1 (by decide) (hts _ k_X0_triedFame_f15) (fun _ h9 => h9) rfl dX0_triedFame_11 ?_
        refine lv_iload_n hx hb dX0_triedFame_14 rfl (lv_at hl 2 rfl) ?_
        refine lv_aload_n hx hb dX0_triedFame_15 rfl (lv_at hl 1 rfl) ?_
        refine lv_iload_n hx hb dX0_triedFame_16 rfl (lv_at hl 2 rfl) ?_
        refine kcR_i (kr_V [.int x2, .ref qxc] ⟨hx, hb, hml, hown, hts⟩ (cn_X1_conflictsWith l G qd qdb qde qdf db de df dc dp dk x2 hw H.size) (cwV 1 hts gX0_triedFame_X1_conflictsWith rfl rfl rfl (by decide +kernel) ⟨Nat.le_of_ble_eq_true rfl, Nat.le_of_ble_eq_true rfl⟩) hK hG hP hD hS hA [4, 5, 6, 7] rfl rfl 1 4 rfl rfl rfl hl.1 rfl (Nat.le_of_ble_eq_true rfl) dX0_triedFame_17 ⟨Nat.le_of_ble_eq_true rfl, Nat.le_of_ble_eq_true rfl⟩) hP hD hS hA [4, 5, 6, 7] rfl (fun r3 u H locs hw hP hS => ?_)
        try dsimp only at hw
        obtain ⟨h4, hw⟩ := hw
        refine va_iast hx hb hK hP hD hS 2 0 rfl rfl h4 dX0_triedFame_20 (fun H locs hP hD hS => ?_)
        have hP : va_P (gD G) vwCl (w0_X0_triedFame G qx qxo qxc qxt qd qdb qde qdf ho (upd hc x2.toNatClampNeg r3) ht db de df dc dp dk) H := hP
        have hD : va_D A (w0_X0_triedFame G qx qxo qxc qxt qd qdb qde qdf ho (upd hc x2.toNatClampNeg r3) ht db de df dc dp dk) := hD
        refine lv_iinc (v := (x2 + 1)) (lv' := [(2, .int (x2 + 1)), (0, .ref qx), (1, .ref qd)]) hx hb dX0_triedFame_21 hl (k := 2) rfl rfl (by decide) rfl (fun ls hl => ?_)
        refine lv_goto (tgt := 2) hx hb dX0_triedFame_24 (by decide) ?_
        exact ih (upd hc x2.toNatClampNeg r3) (x2 + 1) _ _ _ hP hD hS (lv_sub hl [1, 2, 0] rfl) hw
  unfold wn_X0_triedFame at hw
  refine lv_iconst (v := 0) hx hb dX0_triedFame_0 (by decide) ?_
  refine lv_istore_n (lv' := [(2, .int (0 : Int32)), (0, .ref qx), (1, .ref qd)]) hx hb dX0_triedFame_1 rfl hl (by decide) rfl (fun ls hl => ?_)
  obtain ⟨n2, hw⟩ := hw
  exact J2 n2 hc (0 : Int32) _ _ _ hP hD hS (lv_sub hl [1, 2, 0] rfl) hw

abbrev w0_X5_orderBy (G : mG) (qu : Nat) (qv : Nat) (uu : Nat → Int32) (vv : Nat → Int32) : va_W := [(qu, .inl (gI G, (14, .inl uu))), (qv, .inl (gI G, (14, .inl vv)))]
set_option maxHeartbeats 8000000 in
set_option maxRecDepth 100000 in
theorem cn_X5_orderBy (l : Launch) (G : mG) (qu : Nat) (qv : Nat) (uu : Nat → Int32) (vv : Nat → Int32) (a1 : Int32) {Q : (Nat → Int32) → Prop} (hw : wn_X5_orderBy uu vv a1 Q) (sz : Nat) :
    Met l yX5_orderBy wsX5_orderBy ({ frames := 0, cells := 0, slots := 0, locals := 0 } : Room) (va_Pc [.ref qu, .int a1, .ref qv] (mPre G (w0_X5_orderBy G qu qv uu vv) sz)) (va_Qv (fun (u : (Nat → Int32)) => Q u) (mBk G (va_A (w0_X5_orderBy G qu qv uu vv) sz) (fun (u : (Nat → Int32)) => (w0_X5_orderBy G qu qv uu u))) (va_A (w0_X5_orderBy G qu qv uu vv) sz)) 0 0 (va_A (w0_X5_orderBy G qu qv uu vv) sz) := by
  refine ms_v (cc := cX5_orderBy) (maxL := 5) (ret := none) (post := (fun (u : (Nat → Int32)) => Q u)) (w1 := (fun (u : (Nat → Int32)) => (w0_X5_orderBy G qu qv uu u))) (by decide) rfl (Nat.le_of_ble_eq_true rfl) ?_ sz
  intro p e s m below meth c A ls H locs hx hb hr hml hown hts hlocks hK hG hP hD hS hA hl
  have hown : s.vm.findClass RX5 = some m.cls := hown
  have hl : lv_has ls 5 [(0, .ref qu), (1, .int a1), (2, .ref qv)] := hl
  have J45 : ∀ (k2 : (Nat → Int32) → Int32 → Int32 → Prop) (hk2 : ∀ (vv : Nat → Int32) (x1 : Int32) (x3 : Int32) (H : Heap) (locs : List Loc) (ls : Array Slot), va_P (gD G) vwCl (w0_X5_orderBy G qu qv uu vv) H → va_D A (w0_X5_orderBy G qu qv uu vv) → va_S A s.heap H locs → lv_has ls 5 [(0, .ref qu), (1, .int x1), (2, .ref qv), (3, .int x3)] → k2 vv x1 x3 → W p l e ({ frames := 0, cells := 0, slots := 0, locals := 0 } : Room) s m ([.ref qu, .int a1, .ref qv] : List Value).toArray below meth c H locs 0 0 (MQ below (va_Qv (fun (u : (Nat → Int32)) => Q u) (mBk G A (fun (u : (Nat → Int32)) => (w0_X5_orderBy G qu qv uu u))) A) ([.ref qu, .int a1, .ref qv] : List Value).toArray s 0 0 A) (F0 m 2 ls [])) (vv : Nat → Int32) (x1 : Int32) (x3 : Int32) (x4 : Int32) (H : Heap) (locs : List Loc) (ls : Array Slot), va_P (gD G) vwCl (w0_X5_orderBy G qu qv uu vv) H → va_D A (w0_X5_orderBy G qu qv uu vv) → va_S A s.heap H locs → lv_has ls 5 [(0, .ref qu), (1, .int x1), (2, .ref qv), (3, .int x3), (4, .int x4)] → wj_n_X5_orderBy_45 uu Q k2 vv x1 x3 x4 → W p l e ({ frames := 0, cells := 0, slots := 0, locals := 0 } : Room) s m ([.ref qu, .int a1, .ref qv] : List Value).toArray below meth c H locs 0 0 (MQ below (va_Qv (fun (u : (Nat → Int32)) => Q u) (mBk G A (fun (u : (Nat → Int32)) => (w0_X5_orderBy G qu qv uu u))) A) ([.ref qu, .int a1, .ref qv] : List Value).toArray s 0 0 A) (F0 m 45 ls []) := by
    intro k2 hk2 vv x1 x3 x4 H locs ls hP hD hS hl hw
    unfold wj_n_X5_orderBy_45 at hw
    refine lv_aload_n hx hb dX5_orderBy_45 rfl (lv_at hl 2 rfl) ?_
    refine lv_iload hx hb dX5_orderBy_46 (lv_at hl 4 rfl) ?_
    refine lv_iload_n hx hb dX5_orderBy_48 rfl (lv_at hl 3 rfl) ?_
    obtain ⟨h3, hw⟩ := hw
    refine va_iast hx hb hK hP hD hS 1 0 rfl rfl h3 dX5_orderBy_49 (fun H locs hP hD hS => ?_)
    have hP : va_P (gD G) vwCl (w0_X5_orderBy G qu qv uu (upd vv x4.toNatClampNeg x3)) H := hP
    have hD : va_D A (w0_X5_orderBy G qu qv uu (upd vv x4.toNatClampNeg x3)) := hD
    refine lv_iinc (v := (x3 + 1)) (lv' := [(3, .int (x3 + 1)), (0, .ref qu), (1, .int x1), (2, .ref qv), (4, .int x4)]) hx hb dX5_orderBy_50 hl (k := 3) rfl rfl (by decide) rfl (fun ls hl => ?_)
    refine lv_goto (tgt := 2) hx hb dX5_orderBy_53 (by decide) ?_
    exact hk2 (upd vv x4.toNatClampNeg x3) x1 (x3 + 1) _ _ _ hP hD hS (lv_sub hl [1, 2, 3, 0] rfl) hw
  have J10 : ∀ (k2 : (Nat → Int32) → Int32 → Int32 → Prop) (hk2 : ∀ (vv : Nat → Int32) (x1 : Int32) (x3 : Int32) (H : Heap) (locs : List Loc) (ls : Array Slot), va_P (gD G) vwCl (w0_X5_orderBy G qu qv uu vv) H → va_D A (w0_X5_orderBy G qu qv uu vv) → va_S A s.heap H locs → lv_has ls 5 [(0, .ref qu), (1, .int x1), (2, .ref qv), (3, .int x3)] → k2 vv x1 x3 → W p l e ({ frames := 0, cells := 0, slots := 0, locals := 0 } : Room) s m ([.ref qu, .int a1, .ref qv] : List Value).toArray below meth c H locs 0 0 (MQ below (va_Qv (fun (u : (Nat → Int32)) => Q u) (mBk G A (fun (u : (Nat → Int32)) => (w0_X5_orderBy G qu qv uu u))) A) ([.ref qu, .int a1, .ref qv] : List Value).toArray s 0 0 A) (F0 m 2 ls [])) (n : Nat) (vv : Nat → Int32) (x1 : Int32) (x3 : Int32) (x4 : Int32) (H : Heap) (locs : List Loc) (ls : Array Slot), va_P (gD G) vwCl (w0_X5_orderBy G qu qv uu vv) H → va_D A (w0_X5_orderBy G qu qv uu vv) → va_S A s.heap H locs → lv_has ls 5 [(0, .ref qu), (1, .int x1), (2, .ref qv), (3, .int x3), (4, .int x4)] → wl_n_X5_orderBy_10 uu Q k2 n vv x1 x3 x4 → W p l e ({ frames := 0, cells := 0, slots := 0, locals := 0 } : Room) s m ([.ref qu, .int a1, .ref qv] : List Value).toArray below meth c H locs 0 0 (MQ below (va_Qv (fun (u : (Nat → Int32)) => Q u) (mBk G A (fun (u : (Nat → Int32)) => (w0_X5_orderBy G qu qv uu u))) A) ([.ref qu, .int a1, .ref qv] : List Value).toArray s 0 0 A) (F0 m 10 ls []) := by
    intro k2 hk2 n
    induction n with
    | zero => intro vv x1 x3 x4 H locs ls hP hD hS hl hw; exact False.elim hw
    | succ n ih =>
      intro vv x1 x3 x4 H locs ls hP hD hS hl hw
      rw [wl_n_X5_orderBy_10] at hw
      refine lv_iload hx hb dX5_orderBy_10 (lv_at hl 4 rfl) ?_
      refine lv_if_le (tgt := 45) hx hb dX5_orderBy_12 (by decide) (fun cd2 => ?_) (fun cd2 => ?_)
      · have hw := hw.1 cd2
        exact J45 k2 hk2 vv x1 x3 x4 _ _ _ hP hD hS hl hw
      · have hw := hw.2 cd2
        refine lv_aload_n hx hb dX5_orderBy_15 rfl (lv_at hl 0 rfl) ?_
        refine lv_aload_n hx hb dX5_orderBy_16 rfl (lv_at hl 2 rfl) ?_
        refine lv_iload hx hb dX5_orderBy_17 (lv_at hl 4 rfl) ?_
        refine lv_iconst (v := 1) hx hb dX5_orderBy_19 (by decide) ?_
        refine lv_isub hx hb dX5_orderBy_20 ?_
        obtain ⟨h4, hw⟩ := hw
        refine va_iald hx hb hK hP 1 0 rfl rfl h4 dX5_orderBy_21 ?_
        obtain ⟨h5, hw⟩ := hw
        refine va_iald hx hb hK hP 0 0 rfl rfl h5 dX5_orderBy_22 ?_
        refine lv_aload_n hx hb dX5_orderBy_23 rfl (lv_at hl 0 rfl) ?_
        refine lv_iload_n hx hb dX5_orderBy_24 rfl (lv_at hl 3 rfl) ?_
        obtain ⟨h6, hw⟩ := hw
        refine va_iald hx hb hK hP 0 0 rfl rfl h6 dX5_orderBy_25 ?_
        refine lv_icmp_le (tgt := 45) hx hb dX5_orderBy_26 (by decide) (fun cd7 => ?_) (fun cd7 => ?_)
        · have hw := hw.1 cd7
          exact J45 k2 hk2 vv x1 x3 x4 _ _ _ hP hD hS hl hw
        · have hw := hw.2 cd7
          refine lv_aload_n hx hb dX5_orderBy_29 rfl (lv_at hl 2 rfl) ?_
          refine lv_iload hx hb dX5_orderBy_30 (lv_at hl 4 rfl) ?_
          refine lv_aload_n hx hb dX5_orderBy_32 rfl (lv_at hl 2 rfl) ?_
          refine lv_iload hx hb dX5_orderBy_33 (lv_at hl 4 rfl) ?_
          refine lv_iconst (v := 1) hx hb dX5_orderBy_35 (by decide) ?_
          refine lv_isub hx hb dX5_orderBy_36 ?_
          obtain ⟨h8, hw⟩ := hw
          refine va_iald hx hb hK hP 1 0 rfl rfl h8 dX5_orderBy_37 ?_
          obtain ⟨h9, hw⟩ := hw
          refine va_iast hx hb hK hP hD hS 1 0 rfl rfl h9 dX5_orderBy_38 (fun H locs hP hD hS => ?_)
          have hP : va_P (gD G) vwCl (w0_X5_orderBy G qu qv uu (upd vv x4.toNatClampNeg (vv (x4 - (1 : Int32)).toNatClampNeg))) H := hP
          have hD : va_D A (w0_X5_orderBy G qu qv uu (upd vv x4.toNatClampNeg (vv (x4 - (1 : Int32)).toNatClampNeg))) := hD
          refine lv_iinc (v := (x4 + (-1))) (lv' := [(4, .int (x4 + (-1))), (0, .ref qu), (1, .int x1), (2, .ref qv), (3, .int x3)]) hx hb dX5_orderBy_39 hl (k := 4) rfl rfl (by decide) rfl (fun ls hl => ?_)
          refine lv_goto (tgt := 10) hx hb dX5_orderBy_42 (by decide) ?_
          exact ih (upd vv x4.toNatClampNeg (vv (x4 - (1 : Int32)).toNatClampNeg)) x1 x3 (x4 + (-1)) _ _ _ hP hD hS (lv_sub hl [1, 2, 3, 4, 0] rfl) hw
  have J2 : ∀ (n : Nat) (vv : Nat → Int32) (x1 : Int32) (x3 : Int32) (H : Heap) (locs : List Loc) (ls : Array Slot), va_P (gD G) vwCl (w0_X5_orderBy G qu qv uu vv) H → va_D A (w0_X5_orderBy G qu qv uu vv) → va_S A s.heap H locs → lv_has ls 5 [(0, .ref qu), (1, .int x1), (2, .ref qv), (3, .int x3)] → wl_n_X5_orderBy_2 uu Q n vv x1 x3 → W p l e ({ frames := 0, cells := 0, slots := 0, locals := 0 } : Room) s m ([.ref qu, .int a1, .ref qv] : List Value).toArray below meth c H locs 0 0 (MQ below (va_Qv (fun (u : (Nat → Int32)) => Q u) (mBk G A (fun (u : (Nat → Int32)) => (w0_X5_orderBy G qu qv uu u))) A) ([.ref qu, .int a1, .ref qv] : List Value).toArray s 0 0 A) (F0 m 2 ls []) := by
    intro n
    induction n with
    | zero => intro vv x1 x3 H locs ls hP hD hS hl hw; exact False.elim hw
    | succ n ih =>
      intro vv x1 x3 H locs ls hP hD hS hl hw
      rw [wl_n_X5_orderBy_2] at hw
      refine lv_iload_n hx hb dX5_orderBy_2 rfl (lv_at hl 3 rfl) ?_
      refine lv_iload_n hx hb dX5_orderBy_3 rfl (lv_at hl 1 rfl) ?_
      refine lv_icmp_ge (tgt := 56) hx hb dX5_orderBy_4 (by decide) (fun cd1 => ?_) (fun cd1 => ?_)
      · have hw := hw.1 cd1
        exact fin_v (vv) hx hb hr hlocks hK hS hP hD hw dX5_orderBy_56
      · have hw := hw.2 cd1
        refine lv_iload_n hx hb dX5_orderBy_7 rfl (lv_at hl 3 rfl) ?_
        refine lv_istore (lv' := [(4, .int x3), (0, .ref qu), (1, .int x1), (2, .ref qv), (3, .int x3)]) hx hb dX5_orderBy_8 hl (by decide) rfl (fun ls hl => ?_)
        obtain ⟨n10, hw⟩ := hw
        exact J10 (fun (z0 : Nat → Int32) (z1 : Int32) (z2 : Int32) => wl_n_X5_orderBy_2 uu Q n z0 z1 z2) ih n10 vv x1 x3 x3 _ _ _ hP hD hS (lv_sub hl [1, 2, 3, 4, 0] rfl) hw
  unfold wn_X5_orderBy at hw
  refine lv_iconst (v := 0) hx hb dX5_orderBy_0 (by decide) ?_
  refine lv_istore_n (lv' := [(3, .int (0 : Int32)), (0, .ref qu), (1, .int a1), (2, .ref qv)]) hx hb dX5_orderBy_1 rfl hl (by decide) rfl (fun ls hl => ?_)
  obtain ⟨n2, hw⟩ := hw
  exact J2 n2 vv a1 (0 : Int32) _ _ _ hP hD hS (lv_sub hl [1, 2, 3, 0] rfl) hw

abbrev w0_X0_overBy (G : mG) (qx : Nat) (qxo : Nat) (qxc : Nat) (qxt : Nat) (qd : Nat) (qdb : Nat) (qde : Nat) (qdf : Nat) (ho : Nat → Int32) (hc : Nat → Int32) (ht : Nat → Int32) (db : Nat → Int32) (de : Nat → Int32) (df : Nat → Int32) (dc : Int32) (dp : Int32) (dk : Int32) : va_W := [(qx, .inr (0, [.ref qxo, .ref qxc, .ref qxt])), (qxo, .inl (gI G, (14, .inl ho))), (qxc, .inl (gI G, (14, .inl hc))), (qxt, .inl (gI G, (15, .inl ht))), (qd, .inr (1, [.ref qdb, .ref qde, .ref qdf, .int dc, .int dp, .int dk])), (qdb, .inl (gI G, (14, .inl db))), (qde, .inl (gI G, (14, .inl de))), (qdf, .inl (gI G, (14, .inl df)))]
set_option maxRecDepth 100000 in
theorem k_X0_overBy_inX1 : ∀ w ∈ u_ws RX1 TX1 6, w ∈ wsX0_overBy := by decide +kernel
set_option maxRecDepth 100000 in
theorem k_X0_overBy_f21 : Cond.fieldLink RX0 21 "RehearsalRoom$Day" "count" "I" ∈ wsX0_overBy := by decide +kernel
set_option maxRecDepth 100000 in
theorem k_X0_overBy_f48 : Cond.fieldLink RX0 48 "RehearsalRoom$Day" "ends" "[I" ∈ wsX0_overBy := by decide +kernel
set_option maxRecDepth 100000 in
theorem k_X0_overBy_inX0 : ∀ w ∈ u_ws RX0 TX0 3, w ∈ wsX0_overBy := by decide +kernel
set_option maxRecDepth 100000 in
theorem k_X0_overBy_f9 : Cond.fieldLink RX0 9 "RehearsalRoom$Choices" "order" "[I" ∈ wsX0_overBy := by decide +kernel
set_option maxRecDepth 100000 in
theorem k_X0_overBy_f62 : Cond.fieldLink RX0 62 "RehearsalRoom$Day" "pause" "I" ∈ wsX0_overBy := by decide +kernel
set_option maxHeartbeats 8000000 in
set_option maxRecDepth 100000 in
theorem cn_X0_overBy (l : Launch) (G : mG) (qx : Nat) (qxo : Nat) (qxc : Nat) (qxt : Nat) (qd : Nat) (qdb : Nat) (qde : Nat) (qdf : Nat) (ho : Nat → Int32) (hc : Nat → Int32) (ht : Nat → Int32) (db : Nat → Int32) (de : Nat → Int32) (df : Nat → Int32) (dc : Int32) (dp : Int32) (dk : Int32) (a2 : Int32) {Q : Int32 → Prop} (hw : wn_X0_overBy ho de dc dp a2 Q) (sz : Nat) :
    Met l yX0_overBy wsX0_overBy ({ frames := 0, cells := 0, slots := 0, locals := 0 } : Room) (va_Pc [.ref qx, .ref qd, .int a2] (mPre G (w0_X0_overBy G qx qxo qxc qxt qd qdb qde qdf ho hc ht db de df dc dp dk) sz)) (va_Qi (fun (r : Int32) (u : Unit) => Q r) (mBk G (va_A (w0_X0_overBy G qx qxo qxc qxt qd qdb qde qdf ho hc ht db de df dc dp dk) sz) (fun (u : Unit) => (w0_X0_overBy G qx qxo qxc qxt qd qdb qde qdf ho hc ht db de df dc dp dk))) (va_A (w0_X0_overBy G qx qxo qxc qxt qd qdb qde qdf ho hc ht db de df dc dp dk) sz)) 0 0 (va_A (w0_X0_overBy G qx qxo qxc qxt qd qdb qde qdf ho hc ht db de df dc dp dk) sz) := by
  refine ms_i (cc := cX0_overBy) (maxL := 4) (ret := some .int) (post := (fun (r : Int32) (u : Unit) => Q r)) (w1 := (fun (u : Unit) => (w0_X0_overBy G qx qxo qxc qxt qd qdb qde qdf ho hc ht db de df dc dp dk))) (by decide) rfl (Nat.le_of_ble_eq_true rfl) ?_ sz
  intro p e s m below meth c A ls H locs hx hb hr hml hown hts hlocks hK hG hP hD hS hA hl
  have hown : s.vm.findClass RX0 = some m.cls := hown
  have hl : lv_has ls 4 [(0, .ref qx), (1, .ref qd), (2, .int a2)] := hl
  have J2 : ∀ (n : Nat) (x2 : Int32) (x3 : Int32) (H : Heap) (locs : List Loc) (ls : Array Slot), va_P (gD G) vwCl (w0_X0_overBy G qx qxo qxc qxt qd qdb qde qdf ho hc ht db de df dc dp dk) H → va_D A (w0_X0_overBy G qx qxo qxc qxt qd qdb qde qdf ho hc ht db de df dc dp dk) → va_S A s.heap H locs → lv_has ls 4 [(0, .ref qx), (1, .ref qd), (2, .int x2), (3, .int x3)] → wl_n_X0_overBy_2 ho de dc dp Q n x2 x3 → W p l e ({ frames := 0, cells := 0, slots := 0, locals := 0 } : Room) s m ([.ref qx, .ref qd, .int a2] : List Value).toArray below meth c H locs 0 0 (MQ below (va_Qi (fun (r : Int32) (u : Unit) => Q r) (mBk G A (fun (u : Unit) => (w0_X0_overBy G qx qxo qxc qxt qd qdb qde qdf ho hc ht db de df dc dp dk))) A) ([.ref qx, .ref qd, .int a2] : List Value).toArray s 0 0 A) (F0 m 2 ls []) := by
    intro n
    induction n with
    | zero => intro x2 x3 H locs ls hP hD hS hl hw; exact False.elim hw
    | succ n ih =>
      intro x2 x3 H locs ls hP hD hS hl hw
      rw [wl_n_X0_overBy_2] at hw
      refine lv_iload_n hx hb dX0_overBy_2 rfl (lv_at hl 3 rfl) ?_
      refine lv_aload_n hx hb dX0_overBy_3 rfl (lv_at hl 1 rfl) ?_
      refine va_get (D := gD G) (ci := 1) (v := .int dc) (C := RX1) (T := TX1) (N := 6) hx hb hts k_X0_overBy_inX1 hown hK hP 4 rfl rfl 3 (by decide) (hts _ k_X0_overBy_f21) (fun _ h9 => h9) rfl dX0_overBy_4 ?_
      refine lv_icmp_ge (tgt := 36) hx hb dX0_overBy_7 (by decide) (fun cd1 => ?_) (fun cd1 => ?_)
      · have hw := hw.1 cd1
        refine lv_iload_n hx hb dX0_overBy_36 rfl (lv_at hl 3 rfl) ?_
        exact fin_i () hx hb hr hlocks hK hS hP hD hw dX0_overBy_37
      · have hw := hw.2 cd1
        refine lv_aload_n hx hb dX0_overBy_10 rfl (lv_at hl 1 rfl) ?_
        refine va_get (D := gD G) (ci := 1) (v := .ref qde) (C := RX1) (T := TX1) (N := 6) hx hb hts k_X0_overBy_inX1 hown hK hP 4 rfl rfl 1 (by decide) (hts _ k_X0_overBy_f48) (fun _ h9 => h9) rfl dX0_overBy_11 ?_
        refine lv_aload_n hx hb dX0_overBy_14 rfl (lv_at hl 0 rfl) ?_
        refine va_get (D := gD G) (ci := 0) (v := .ref qxo) (C := RX0) (T := TX0) (N := 3) hx hb hts k_X0_overBy_inX0 hown hK hP 0 rfl rfl 0 (by decide) (hts _ k_X0_overBy_f9) (fun _ h9 => h9) rfl dX0_overBy_15 ?_
        refine lv_iload_n hx hb dX0_overBy_18 rfl (lv_at hl 3 rfl) ?_
        obtain ⟨h2, hw⟩ := hw
        refine va_iald hx hb hK hP 1 0 rfl rfl h2 dX0_overBy_19 ?_
        obtain ⟨h3, hw⟩ := hw
        refine va_iald hx hb hK hP 6 0 rfl rfl h3 dX0_overBy_20 ?_
        refine lv_aload_n hx hb dX0_overBy_21 rfl (lv_at hl 1 rfl) ?_
        refine va_get (D := gD G) (ci := 1) (v := .int dp) (C := RX1) (T := TX1) (N := 6) hx hb hts k_X0_overBy_inX1 hown hK hP 4 rfl rfl 4 (by decide) (hts _ k_X0_overBy_f62) (fun _ h9 => h9) rfl dX0_overBy_22 ?_
        refine lv_iadd hx hb dX0_overBy_25 ?_
        refine lv_iload_n hx hb dX0_overBy_26 rfl (lv_at hl 2 rfl) ?_
        refine lv_icmp_gt (tgt := 36) hx hb dX0_overBy_27 (by decide) (fun cd4 => ?_) (fun cd4 => ?_)
        · have hw := hw.1 cd4
          refine lv_iload_n hx hb dX0_overBy_36 rfl (lv_at hl 3 rfl) ?_
          exact fin_i () hx hb hr hlocks hK hS hP hD hw dX0_overBy_37
        · have hw := hw.2 cd4
          refine lv_iinc (v := (x3 + 1)) (lv' := [(3, .int (x3 + 1)), (0, .ref qx), (1, .ref qd), (2, .int x2)]) hx hb dX0_overBy_30 hl (k := 3) rfl rfl (by decide) rfl (fun ls hl => ?_)
          refine lv_goto (tgt := 2) hx hb dX0_overBy_33 (by decide) ?_
          exact ih x2 (x3 + 1) _ _ _ hP hD hS (lv_sub hl [1, 2, 3, 0] rfl) hw
  unfold wn_X0_overBy at hw
  refine lv_iconst (v := 0) hx hb dX0_overBy_0 (by decide) ?_
  refine lv_istore_n (lv' := [(3, .int (0 : Int32)), (0, .ref qx), (1, .ref qd), (2, .int a2)]) hx hb dX0_overBy_1 rfl hl (by decide) rfl (fun ls hl => ?_)
  obtain ⟨n2, hw⟩ := hw
  exact J2 n2 a2 (0 : Int32) _ _ _ hP hD hS (lv_sub hl [1, 2, 3, 0] rfl) hw

abbrev w0_X0_fameAmong (G : mG) (qx : Nat) (qxo : Nat) (qxc : Nat) (qxt : Nat) (qd : Nat) (qdb : Nat) (qde : Nat) (qdf : Nat) (ho : Nat → Int32) (hc : Nat → Int32) (ht : Nat → Int32) (db : Nat → Int32) (de : Nat → Int32) (df : Nat → Int32) (dc : Int32) (dp : Int32) (dk : Int32) : va_W := [(qx, .inr (0, [.ref qxo, .ref qxc, .ref qxt])), (qxo, .inl (gI G, (14, .inl ho))), (qxc, .inl (gI G, (14, .inl hc))), (qxt, .inl (gI G, (15, .inl ht))), (qd, .inr (1, [.ref qdb, .ref qde, .ref qdf, .int dc, .int dp, .int dk])), (qdb, .inl (gI G, (14, .inl db))), (qde, .inl (gI G, (14, .inl de))), (qdf, .inl (gI G, (14, .inl df)))]
set_option maxRecDepth 100000 in
theorem k_X0_fameAmong_inX1 : ∀ w ∈ u_ws RX1 TX1 6, w ∈ wsX0_fameAmong := by decide +kernel
set_option maxRecDepth 100000 in
theorem k_X0_fameAmong_f48 : Cond.fieldLink RX0 48 "RehearsalRoom$Day" "ends" "[I" ∈ wsX0_fameAmong := by decide +kernel
set_option maxRecDepth 100000 in
theorem k_X0_fameAmong_f21 : Cond.fieldLink RX0 21 "RehearsalRoom$Day" "count" "I" ∈ wsX0_fameAmong := by decide +kernel
set_option maxRecDepth 100000 in
theorem k_X0_fameAmong_inX0 : ∀ w ∈ u_ws RX0 TX0 3, w ∈ wsX0_fameAmong := by decide +kernel
set_option maxRecDepth 100000 in
theorem k_X0_fameAmong_f9 : Cond.fieldLink RX0 9 "RehearsalRoom$Choices" "order" "[I" ∈ wsX0_fameAmong := by decide +kernel
set_option maxRecDepth 100000 in
theorem k_X0_fameAmong_f18 : Cond.fieldLink RX0 18 "RehearsalRoom$Choices" "table" "[I" ∈ wsX0_fameAmong := by decide +kernel
set_option maxRecDepth 100000 in
theorem k_X0_fameAmong_m42 : Cond.methodLink RX0 42 Lib.Math.max.name ∈ wsX0_fameAmong := by decide +kernel
set_option maxRecDepth 100000 in
theorem k_X0_fameAmong_mst : Cond.static Lib.Math.max.name ∈ wsX0_fameAmong := by decide +kernel
set_option maxRecDepth 100000 in
theorem k_X0_fameAmong_min : Cond.initialized "java/lang/Math" ∈ wsX0_fameAmong := by decide +kernel
set_option maxRecDepth 100000 in
theorem k_X0_fameAmong_mco : Cond.code Lib.Math.max.name Lib.Math.max.code 2 (some .int) ∈ wsX0_fameAmong := by decide +kernel
set_option maxRecDepth 100000 in
theorem k_X0_fameAmong_f31 : Cond.fieldLink RX0 31 "RehearsalRoom$Day" "fames" "[I" ∈ wsX0_fameAmong := by decide +kernel
set_option maxRecDepth 100000 in
theorem k_X0_fameAmong_f55 : Cond.fieldLink RX0 55 "RehearsalRoom$Day" "begins" "[I" ∈ wsX0_fameAmong := by decide +kernel
set_option maxHeartbeats 8000000 in
set_option maxRecDepth 100000 in
theorem cn_X0_fameAmong (l : Launch) (G : mG) (qx : Nat) (qxo : Nat) (qxc : Nat) (qxt : Nat) (qd : Nat) (qdb : Nat) (qde : Nat) (qdf : Nat) (ho : Nat → Int32) (hc : Nat → Int32) (ht : Nat → Int32) (db : Nat → Int32) (de : Nat → Int32) (df : Nat → Int32) (dc : Int32) (dp : Int32) (dk : Int32) (a2 : Int32) {Q : Int32 → (Nat → Int32) → (Nat → Int32) → Prop} (hw : wn_X0_fameAmong ho ht db de df dc dp a2 Q) (sz : Nat) :
    Met l yX0_fameAmong wsX0_fameAmong ({ frames := 2, cells := 0, slots := 0, locals := 41 } : Room) (va_Pc [.ref qx, .ref qd, .int a2] (mPre G (w0_X0_fameAmong G qx qxo qxc qxt qd qdb qde qdf ho hc ht db de df dc dp dk) sz)) (va_Qi (fun (r : Int32) (u : (Nat → Int32) × (Nat → Int32)) => Q r u.1 u.2) (mBk G (va_A (w0_X0_fameAmong G qx qxo qxc qxt qd qdb qde qdf ho hc ht db de df dc dp dk) sz) (fun (u : (Nat → Int32) × (Nat → Int32)) => (w0_X0_fameAmong G qx qxo qxc qxt qd qdb qde qdf u.1 hc u.2 db de df dc dp dk))) (va_A (w0_X0_fameAmong G qx qxo qxc qxt qd qdb qde qdf ho hc ht db de df dc dp dk) sz)) 0 0 (va_A (w0_X0_fameAmong G qx qxo qxc qxt qd qdb qde qdf ho hc ht db de df dc dp dk) sz) := by
  refine ms_i (cc := cX0_fameAmong) (maxL := 6) (ret := some .int) (post := (fun (r : Int32) (u : (Nat → Int32) × (Nat → Int32)) => Q r u.1 u.2)) (w1 := (fun (u : (Nat → Int32) × (Nat → Int32)) => (w0_X0_fameAmong G qx qxo qxc qxt qd qdb qde qdf u.1 hc u.2 db de df dc dp dk))) (by decide) rfl (Nat.le_of_ble_eq_true rfl) ?_ sz
  intro p e s m below meth c A ls H locs hx hb hr hml hown hts hlocks hK hG hP hD hS hA hl
  have hown : s.vm.findClass RX0 = some m.cls := hown
  have hl : lv_has ls 6 [(0, .ref qx), (1, .ref qd), (2, .int a2)] := hl
  have J79 : ∀ (k24 : (Nat → Int32) → (Nat → Int32) → Int32 → Int32 → Prop) (hk24 : ∀ (ho : Nat → Int32) (ht : Nat → Int32) (x2 : Int32) (x3 : Int32) (H : Heap) (locs : List Loc) (ls : Array Slot), va_P (gD G) vwCl (w0_X0_fameAmong G qx qxo qxc qxt qd qdb qde qdf ho hc ht db de df dc dp dk) H → va_D A (w0_X0_fameAmong G qx qxo qxc qxt qd qdb qde qdf ho hc ht db de df dc dp dk) → va_S A s.heap H locs → lv_has ls 6 [(0, .ref qx), (1, .ref qd), (2, .int x2), (3, .int x3)] → k24 ho ht x2 x3 → W p l e ({ frames := 2, cells := 0, slots := 0, locals := 41 } : Room) s m ([.ref qx, .ref qd, .int a2] : List Value).toArray below meth c H locs 0 0 (MQ below (va_Qi (fun (r : Int32) (u : (Nat → Int32) × (Nat → Int32)) => Q r u.1 u.2) (mBk G A (fun (u : (Nat → Int32) × (Nat → Int32)) => (w0_X0_fameAmong G qx qxo qxc qxt qd qdb qde qdf u.1 hc u.2 db de df dc dp dk))) A) ([.ref qx, .ref qd, .int a2] : List Value).toArray s 0 0 A) (F0 m 24 ls [])) (ho : Nat → Int32) (ht : Nat → Int32) (x2 : Int32) (x3 : Int32) (x4 : Int32) (x5 : Int32) (H : Heap) (locs : List Loc) (ls : Array Slot), va_P (gD G) vwCl (w0_X0_fameAmong G qx qxo qxc qxt qd qdb qde qdf ho hc ht db de df dc dp dk) H → va_D A (w0_X0_fameAmong G qx qxo qxc qxt qd qdb qde qdf ho hc ht db de df dc dp dk) → va_S A s.heap H locs → lv_has ls 6 [(0, .ref qx), (1, .ref qd), (2, .int x2), (3, .int x3), (4, .int x4), (5, .int x5)] → wj_n_X0_fameAmong_79 db de df dc dp Q k24 ho ht x2 x3 x4 x5 → W p l e ({ frames := 2, cells := 0, slots := 0, locals := 41 } : Room) s m ([.ref qx, .ref qd, .int a2] : List Value).toArray below meth c H locs 0 0 (MQ below (va_Qi (fun (r : Int32) (u : (Nat → Int32) × (Nat → Int32)) => Q r u.1 u.2) (mBk G A (fun (u : (Nat → Int32) × (Nat → Int32)) => (w0_X0_fameAmong G qx qxo qxc qxt qd qdb qde qdf u.1 hc u.2 db de df dc dp dk))) A) ([.ref qx, .ref qd, .int a2] : List Value).toArray s 0 0 A) (F0 m 79 ls []) := by
    intro k24 hk24 ho ht x2 x3 x4 x5 H locs ls hP hD hS hl hw
    unfold wj_n_X0_fameAmong_79 at hw
    refine lv_aload_n hx hb dX0_fameAmong_79 rfl (lv_at hl 0 rfl) ?_
    refine va_get (D := gD G) (ci := 0) (v := .ref qxt) (C := RX0) (T := TX0) (N := 3) hx hb hts k_X0_fameAmong_inX0 hown hK hP 0 rfl rfl 2 (by decide) (hts _ k_X0_fameAmong_f18) (fun _ h9 => h9) rfl dX0_fameAmong_80 ?_
    refine lv_iload_n hx hb dX0_fameAmong_83 rfl (lv_at hl 3 rfl) ?_
    refine lv_iconst (v := 1) hx hb dX0_fameAmong_84 (by decide) ?_
    refine lv_iadd hx hb dX0_fameAmong_85 ?_
    refine lv_aload_n hx hb dX0_fameAmong_86 rfl (lv_at hl 0 rfl) ?_
    refine va_get (D := gD G) (ci := 0) (v := .ref qxt) (C := RX0) (T := TX0) (N := 3) hx hb hts k_X0_fameAmong_inX0 hown hK hP 0 rfl rfl 2 (by decide) (hts _ k_X0_fameAmong_f18) (fun _ h9 => h9) rfl dX0_fameAmong_87 ?_
    refine lv_iload_n hx hb dX0_fameAmong_90 rfl (lv_at hl 3 rfl) ?_
    obtain ⟨h8, hw⟩ := hw
    refine va_iald hx hb hK hP 3 0 rfl rfl h8 dX0_fameAmong_91 ?_
    refine lv_iload hx hb dX0_fameAmong_92 (lv_at hl 5 rfl) ?_
    refine va_mmax hx hb (by rw [hml]; exact hl.1.symm) hown (hts _ k_X0_fameAmong_m42) (hts _ k_X0_fameAmong_mst) (hts _ k_X0_fameAmong_min) (hts _ k_X0_fameAmong_mco) (Nat.le_of_ble_eq_true rfl) (Nat.le_of_ble_eq_true rfl) (Nat.le_of_ble_eq_true rfl) (Nat.le_of_ble_eq_true rfl) dX0_fameAmong_94 ?_
    obtain ⟨h9, hw⟩ := hw
    refine va_iast hx hb hK hP hD hS 3 0 rfl rfl h9 dX0_fameAmong_97 (fun H locs hP hD hS => ?_)
    have hP : va_P (gD G) vwCl (w0_X0_fameAmong G qx qxo qxc qxt qd qdb qde qdf ho hc (upd ht (x3 + (1 : Int32)).toNatClampNeg (if (ht x3.toNatClampNeg) < x5 then x5 else (ht x3.toNatClampNeg))) db de df dc dp dk) H := hP
    have hD : va_D A (w0_X0_fameAmong G qx qxo qxc qxt qd qdb qde qdf ho hc (upd ht (x3 + (1 : Int32)).toNatClampNeg (if (ht x3.toNatClampNeg) < x5 then x5 else (ht x3.toNatClampNeg))) db de df dc dp dk) := hD
    refine lv_iinc (v := (x3 + 1)) (lv' := [(3, .int (x3 + 1)), (0, .ref qx), (1, .ref qd), (2, .int x2), (4, .int x4), (5, .int x5)]) hx hb dX0_fameAmong_98 hl (k := 3) rfl rfl (by decide) rfl (fun ls hl => ?_)
    refine lv_goto (tgt := 24) hx hb dX0_fameAmong_101 (by decide) ?_
    exact hk24 ho (upd ht (x3 + (1 : Int32)).toNatClampNeg (if (ht x3.toNatClampNeg) < x5 then x5 else (ht x3.toNatClampNeg))) x2 (x3 + 1) _ _ _ hP hD hS (lv_sub hl [1, 2, 3, 0] rfl) hw
  have J24 : ∀ (n : Nat) (ho : Nat → Int32) (ht : Nat → Int32) (x2 : Int32) (x3 : Int32) (H : Heap) (locs : List Loc) (ls : Array Slot), va_P (gD G) vwCl (w0_X0_fameAmong G qx qxo qxc qxt qd qdb qde qdf ho hc ht db de df dc dp dk) H → va_D A (w0_X0_fameAmong G qx qxo qxc qxt qd qdb qde qdf ho hc ht db de df dc dp dk) → va_S A s.heap H locs → lv_has ls 6 [(0, .ref qx), (1, .ref qd), (2, .int x2), (3, .int x3)] → wl_n_X0_fameAmong_24 db de df dc dp Q n ho ht x2 x3 → W p l e ({ frames := 2, cells := 0, slots := 0, locals := 41 } : Room) s m ([.ref qx, .ref qd, .int a2] : List Value).toArray below meth c H locs 0 0 (MQ below (va_Qi (fun (r : Int32) (u : (Nat → Int32) × (Nat → Int32)) => Q r u.1 u.2) (mBk G A (fun (u : (Nat → Int32) × (Nat → Int32)) => (w0_X0_fameAmong G qx qxo qxc qxt qd qdb qde qdf u.1 hc u.2 db de df dc dp dk))) A) ([.ref qx, .ref qd, .int a2] : List Value).toArray s 0 0 A) (F0 m 24 ls []) := by
    intro n
    induction n with
    | zero => intro ho ht x2 x3 H locs ls hP hD hS hl hw; exact False.elim hw
    | succ n ih =>
      intro ho ht x2 x3 H locs ls hP hD hS hl hw
      rw [wl_n_X0_fameAmong_24] at hw
      refine lv_iload_n hx hb dX0_fameAmong_24 rfl (lv_at hl 3 rfl) ?_
      refine lv_aload_n hx hb dX0_fameAmong_25 rfl (lv_at hl 1 rfl) ?_
      refine va_get (D := gD G) (ci := 1) (v := .int dc) (C := RX1) (T := TX1) (N := 6) hx hb hts k_X0_fameAmong_inX1 hown hK hP 4 rfl rfl 3 (by decide) (hts _ k_X0_fameAmong_f21) (fun _ h9 => h9) rfl dX0_fameAmong_26 ?_
      refine lv_icmp_ge (tgt := 104) hx hb dX0_fameAmong_29 (by decide) (fun cd3 => ?_) (fun cd3 => ?_)
      · have hw := hw.1 cd3
        refine lv_aload_n hx hb dX0_fameAmong_104 rfl (lv_at hl 0 rfl) ?_
        refine va_get (D := gD G) (ci := 0) (v := .ref qxt) (C := RX0) (T := TX0) (N := 3) hx hb hts k_X0_fameAmong_inX0 hown hK hP 0 rfl rfl 2 (by decide) (hts _ k_X0_fameAmong_f18) (fun _ h9 => h9) rfl dX0_fameAmong_105 ?_
        refine lv_aload_n hx hb dX0_fameAmong_108 rfl (lv_at hl 1 rfl) ?_
        refine va_get (D := gD G) (ci := 1) (v := .int dc) (C := RX1) (T := TX1) (N := 6) hx hb hts k_X0_fameAmong_inX1 hown hK hP 4 rfl rfl 3 (by decide) (hts _ k_X0_fameAmong_f21) (fun _ h9 => h9) rfl dX0_fameAmong_109 ?_
        obtain ⟨h4, hw⟩ := hw
        refine va_iald hx hb hK hP 3 0 rfl rfl h4 dX0_fameAmong_112 ?_
        exact fin_i (ho, ht) hx hb hr hlocks hK hS hP hD hw dX0_fameAmong_113
      · have hw := hw.2 cd3
        refine lv_aload_n hx hb dX0_fameAmong_32 rfl (lv_at hl 0 rfl) ?_
        refine va_get (D := gD G) (ci := 0) (v := .ref qxo) (C := RX0) (T := TX0) (N := 3) hx hb hts k_X0_fameAmong_inX0 hown hK hP 0 rfl rfl 0 (by decide) (hts _ k_X0_fameAmong_f9) (fun _ h9 => h9) rfl dX0_fameAmong_33 ?_
        refine lv_iload_n hx hb dX0_fameAmong_36 rfl (lv_at hl 3 rfl) ?_
        obtain ⟨h5, hw⟩ := hw
        refine va_iald hx hb hK hP 1 0 rfl rfl h5 dX0_fameAmong_37 ?_
        refine lv_istore (lv' := [(4, .int (ho x3.toNatClampNeg)), (0, .ref qx), (1, .ref qd), (2, .int x2), (3, .int x3)]) hx hb dX0_fameAmong_38 hl (by decide) rfl (fun ls hl => ?_)
        refine lv_iconst (v := 0) hx hb dX0_fameAmong_40 (by decide) ?_
        refine lv_istore (lv' := [(5, .int (0 : Int32)), (4, .int (ho x3.toNatClampNeg)), (0, .ref qx), (1, .ref qd), (2, .int x2), (3, .int x3)]) hx hb dX0_fameAmong_41 hl (by decide) rfl (fun ls hl => ?_)
        refine lv_iload_n hx hb dX0_fameAmong_43 rfl (lv_at hl 4 rfl) ?_
        refine lv_iload hx hb dX0_fameAmong_44 (lv_at hl 1 rfl) ?_
        refine kcR_i (kr_SN [] ⟨hx, hb, hml, hown, hts⟩ (cn_X5_isIn l G x2 (ho x3.toNatClampNeg) hw H.size) ⟨(va_cnB 2 hts gX0_fameAmong_X5_isIn_n38 rfl rfl rfl (hG.1 (RX0, 38, yX5_isIn) (by decide +kernel)) (hts (.initialized RX5) (by decide +kernel)) (by decide +kernel) ⟨Nat.le_of_ble_eq_true rfl, Nat.le_of_ble_eq_true rfl⟩), hts (.static yX5_isIn) (by decide +kernel)⟩ hK hG hP hD hS hA [] rfl rfl rfl hl.1 rfl (Nat.le_of_ble_eq_true rfl) dX0_fameAmong_46 ⟨Nat.le_of_ble_eq_true rfl, Nat.le_of_ble_eq_true rfl⟩) hP hD hS hA [] rfl (fun r6 u H locs hw hP hS => ?_)
        try dsimp only at hw
        obtain ⟨hz_r6, hw⟩ := hw
        refine lv_if_eq (tgt := 79) hx hb dX0_fameAmong_49 (by decide) (fun cd7 => ?_) (fun cd7 => ?_)
        · have hw := hw.1 cd7
          exact J79 (fun (z0 : Nat → Int32) (z1 : Nat → Int32) (z2 : Int32) (z3 : Int32) => wl_n_X0_fameAmong_24 db de df dc dp Q n z0 z1 z2 z3) ih ho ht x2 x3 (ho x3.toNatClampNeg) (0 : Int32) _ _ _ hP hD hS (lv_sub hl [2, 3, 4, 5, 1, 0] rfl) hw
        · have hw := hw.2 cd7
          refine lv_aload_n hx hb dX0_fameAmong_52 rfl (lv_at hl 3 rfl) ?_
          refine va_get (D := gD G) (ci := 1) (v := .ref qdf) (C := RX1) (T := TX1) (N := 6) hx hb hts k_X0_fameAmong_inX1 hown hK hP 4 rfl rfl 2 (by decide) (hts _ k_X0_fameAmong_f31) (fun _ h9 => h9) rfl dX0_fameAmong_53 ?_
          refine lv_iload hx hb dX0_fameAmong_56 (lv_at hl 1 rfl) ?_
          obtain ⟨h10, hw⟩ := hw
          refine va_iald hx hb hK hP 7 0 rfl rfl h10 dX0_fameAmong_58 ?_
          refine lv_aload_n hx hb dX0_fameAmong_59 rfl (lv_at hl 2 rfl) ?_
          refine va_get (D := gD G) (ci := 0) (v := .ref qxt) (C := RX0) (T := TX0) (N := 3) hx hb hts k_X0_fameAmong_inX0 hown hK hP 0 rfl rfl 2 (by decide) (hts _ k_X0_fameAmong_f18) (fun _ h9 => h9) rfl dX0_fameAmong_60 ?_
          refine lv_aload_n hx hb dX0_fameAmong_63 rfl (lv_at hl 2 rfl) ?_
          refine lv_aload_n hx hb dX0_fameAmong_64 rfl (lv_at hl 3 rfl) ?_
          refine lv_aload_n hx hb dX0_fameAmong_65 rfl (lv_at hl 3 rfl) ?_
          refine va_get (D := gD G) (ci := 1) (v := .ref qdb) (C := RX1) (T := TX1) (N := 6) hx hb hts k_X0_fameAmong_inX1 hown hK hP 4 rfl rfl 0 (by decide) (hts _ k_X0_fameAmong_f55) (fun _ h9 => h9) rfl dX0_fameAmong_66 ?_
          refine lv_iload hx hb dX0_fameAmong_69 (lv_at hl 1 rfl) ?_
          obtain ⟨h11, hw⟩ := hw
          refine va_iald hx hb hK hP 5 0 rfl rfl h11 dX0_fameAmong_71 ?_
          refine kcR_i (kr_V [.ref qxt, .int (df (ho x3.toNatClampNeg).toNatClampNeg)] ⟨hx, hb, hml, hown, hts⟩ (cn_X0_overBy l G qx qxo qxc qxt qd qdb qde qdf ho hc ht db de df dc dp dk (db (ho x3.toNatClampNeg).toNatClampNeg) hw H.size) (cwV 2 hts gX0_fameAmong_X0_overBy rfl rfl rfl (by decide +kernel) ⟨Nat.le_of_ble_eq_true rfl, Nat.le_of_ble_eq_true rfl⟩) hK hG hP hD hS hA [0, 1, 2, 3, 4, 5, 6, 7] rfl rfl 0 0 rfl rfl rfl hl.1 rfl (Nat.le_of_ble_eq_true rfl) dX0_fameAmong_72 ⟨Nat.le_of_ble_eq_true rfl, Nat.le_of_ble_eq_true rfl⟩) hP hD hS hA [0, 1, 2, 3, 4, 5, 6, 7] rfl (fun r12 u H locs hw hP hS => ?_)
          try dsimp only at hw
          obtain ⟨h13, hw⟩ := hw
          refine va_iald hx hb hK hP 3 0 rfl rfl h13 dX0_fameAmong_75 ?_
          refine lv_iadd hx hb dX0_fameAmong_76 ?_
          refine lv_topi (fun v14 ev14 => ?_)
          have hw := hw v14 ev14
          refine lv_istore (lv' := [(5, .int v14), (4, .int (ho x3.toNatClampNeg)), (0, .ref qx), (1, .ref qd), (2, .int x2), (3, .int x3)]) hx hb dX0_fameAmong_77 hl (by decide) rfl (fun ls hl => ?_)
          exact J79 (fun (z0 : Nat → Int32) (z1 : Nat → Int32) (z2 : Int32) (z3 : Int32) => wl_n_X0_fameAmong_24 db de df dc dp Q n z0 z1 z2 z3) ih ho ht x2 x3 (ho x3.toNatClampNeg) v14 _ _ _ hP hD hS (lv_sub hl [2, 3, 4, 5, 1, 0] rfl) hw
  unfold wn_X0_fameAmong at hw
  refine lv_aload_n hx hb dX0_fameAmong_0 rfl (lv_at hl 1 rfl) ?_
  refine va_get (D := gD G) (ci := 1) (v := .ref qde) (C := RX1) (T := TX1) (N := 6) hx hb hts k_X0_fameAmong_inX1 hown hK hP 4 rfl rfl 1 (by decide) (hts _ k_X0_fameAmong_f48) (fun _ h9 => h9) rfl dX0_fameAmong_1 ?_
  refine lv_aload_n hx hb dX0_fameAmong_4 rfl (lv_at hl 1 rfl) ?_
  refine va_get (D := gD G) (ci := 1) (v := .int dc) (C := RX1) (T := TX1) (N := 6) hx hb hts k_X0_fameAmong_inX1 hown hK hP 4 rfl rfl 3 (by decide) (hts _ k_X0_fameAmong_f21) (fun _ h9 => h9) rfl dX0_fameAmong_5 ?_
  refine lv_aload_n hx hb dX0_fameAmong_8 rfl (lv_at hl 0 rfl) ?_
  refine va_get (D := gD G) (ci := 0) (v := .ref qxo) (C := RX0) (T := TX0) (N := 3) hx hb hts k_X0_fameAmong_inX0 hown hK hP 0 rfl rfl 0 (by decide) (hts _ k_X0_fameAmong_f9) (fun _ h9 => h9) rfl dX0_fameAmong_9 ?_
  refine kc_v (kr_SN [] ⟨hx, hb, hml, hown, hts⟩ (cn_X5_orderBy l G qde qxo de ho dc hw H.size) ⟨(va_cnB 3 hts gX0_fameAmong_X5_orderBy_n51 rfl rfl rfl (hG.1 (RX0, 51, yX5_orderBy) (by decide +kernel)) (hts (.initialized RX5) (by decide +kernel)) (by decide +kernel) ⟨Nat.le_of_ble_eq_true rfl, Nat.le_of_ble_eq_true rfl⟩), hts (.static yX5_orderBy) (by decide +kernel)⟩ hK hG hP hD hS hA [6, 1] rfl rfl rfl hl.1 rfl (Nat.le_of_ble_eq_true rfl) dX0_fameAmong_12 ⟨Nat.le_of_ble_eq_true rfl, Nat.le_of_ble_eq_true rfl⟩) hP hD hS hA [6, 1] [0, 2, 3, 4, 5, 7] rfl rfl rfl (by decide) (fun u H locs hw hP hD hS => ?_)
  obtain ⟨vv_1, rfl⟩ : ∃ z, z = u := ⟨_, rfl⟩
  try dsimp only at hw
  have hP := hP.sub (ws' := (w0_X0_fameAmong G qx qxo qxc qxt qd qdb qde qdf vv_1 hc ht db de df dc dp dk)) [0, 7, 1, 2, 3, 4, 6, 5] rfl
  have hD := hD.sub (ws' := (w0_X0_fameAmong G qx qxo qxc qxt qd qdb qde qdf vv_1 hc ht db de df dc dp dk)) [0, 7, 1, 2, 3, 4, 6, 5] rfl rfl
  refine lv_aload_n hx hb dX0_fameAmong_15 rfl (lv_at hl 0 rfl) ?_
  refine va_get (D := gD G) (ci := 0) (v := .ref qxt) (C := RX0) (T := TX0) (N := 3) hx hb hts k_X0_fameAmong_inX0 hown hK hP 0 rfl rfl 2 (by decide) (hts _ k_X0_fameAmong_f18) (fun _ h9 => h9) rfl dX0_fameAmong_16 ?_
  refine lv_iconst (v := 0) hx hb dX0_fameAmong_19 (by decide) ?_
  refine lv_iconst (v := 0) hx hb dX0_fameAmong_20 (by decide) ?_
  obtain ⟨h2, hw⟩ := hw
  refine va_iast hx hb hK hP hD hS 3 0 rfl rfl h2 dX0_fameAmong_21 (fun H locs hP hD hS => ?_)
  have hP : va_P (gD G) vwCl (w0_X0_fameAmong G qx qxo qxc qxt qd qdb qde qdf vv_1 hc (upd ht (0 : Int32).toNatClampNeg (0 : Int32)) db de df dc dp dk) H := hP
  have hD : va_D A (w0_X0_fameAmong G qx qxo qxc qxt qd qdb qde qdf vv_1 hc (upd ht (0 : Int32).toNatClampNeg (0 : Int32)) db de df dc dp dk) := hD
  refine lv_iconst (v := 0) hx hb dX0_fameAmong_22 (by decide) ?_
  refine lv_istore_n (lv' := [(3, .int (0 : Int32)), (0, .ref qx), (1, .ref qd), (2, .int a2)]) hx hb dX0_fameAmong_23 rfl hl (by decide) rfl (fun ls hl => ?_)
  obtain ⟨n24, hw⟩ := hw
  exact J24 n24 vv_1 (upd ht (0 : Int32).toNatClampNeg (0 : Int32)) a2 (0 : Int32) _ _ _ hP hD hS (lv_sub hl [1, 2, 3, 0] rfl) hw

abbrev w0_X1_all (G : mG) (qd : Nat) (qdb : Nat) (qde : Nat) (qdf : Nat) (db : Nat → Int32) (de : Nat → Int32) (df : Nat → Int32) (dc : Int32) (dp : Int32) (dk : Int32) : va_W := [(qd, .inr (1, [.ref qdb, .ref qde, .ref qdf, .int dc, .int dp, .int dk])), (qdb, .inl (gI G, (14, .inl db))), (qde, .inl (gI G, (14, .inl de))), (qdf, .inl (gI G, (14, .inl df)))]
set_option maxRecDepth 100000 in
theorem k_X1_all_inX1 : ∀ w ∈ u_ws RX1 TX1 6, w ∈ wsX1_all := by decide +kernel
set_option maxRecDepth 100000 in
theorem k_X1_all_f21 : Cond.fieldLink RX1 21 "RehearsalRoom$Day" "count" "I" ∈ wsX1_all := by decide +kernel
set_option maxHeartbeats 8000000 in
set_option maxRecDepth 100000 in
theorem cn_X1_all (l : Launch) (G : mG) (qd : Nat) (qdb : Nat) (qde : Nat) (qdf : Nat) (db : Nat → Int32) (de : Nat → Int32) (df : Nat → Int32) (dc : Int32) (dp : Int32) (dk : Int32) {Q : Int32 → Prop} (hw : wn_X1_all dc Q) (sz : Nat) :
    Met l yX1_all wsX1_all ({ frames := 1, cells := 0, slots := 0, locals := 20 } : Room) (va_Pc [.ref qd] (mPre G (w0_X1_all G qd qdb qde qdf db de df dc dp dk) sz)) (va_Qi (fun (r : Int32) (u : Unit) => Q r) (mBk G (va_A (w0_X1_all G qd qdb qde qdf db de df dc dp dk) sz) (fun (u : Unit) => (w0_X1_all G qd qdb qde qdf db de df dc dp dk))) (va_A (w0_X1_all G qd qdb qde qdf db de df dc dp dk) sz)) 0 0 (va_A (w0_X1_all G qd qdb qde qdf db de df dc dp dk) sz) := by
  refine ms_i (cc := cX1_all) (maxL := 1) (ret := some .int) (post := (fun (r : Int32) (u : Unit) => Q r)) (w1 := (fun (u : Unit) => (w0_X1_all G qd qdb qde qdf db de df dc dp dk))) (by decide) rfl (Nat.le_of_ble_eq_true rfl) ?_ sz
  intro p e s m below meth c A ls H locs hx hb hr hml hown hts hlocks hK hG hP hD hS hA hl
  have hown : s.vm.findClass RX1 = some m.cls := hown
  have hl : lv_has ls 1 [(0, .ref qd)] := hl
  unfold wn_X1_all at hw
  refine lv_aload_n hx hb dX1_all_0 rfl (lv_at hl 0 rfl) ?_
  refine va_get (D := gD G) (ci := 1) (v := .int dc) (C := RX1) (T := TX1) (N := 6) hx hb hts k_X1_all_inX1 hown hK hP 0 rfl rfl 3 (by decide) (hts _ k_X1_all_f21) (fun _ h9 => h9) rfl dX1_all_1 ?_
  refine kcR_i (kr_SN [] ⟨hx, hb, hml, hown, hts⟩ (cn_X5_bit l G dc hw H.size) ⟨(va_cnB 1 hts gX1_all_X5_bit_n35 rfl rfl rfl (hG.1 (RX1, 35, yX5_bit) (by decide +kernel)) (hts (.initialized RX5) (by decide +kernel)) (by decide +kernel) ⟨Nat.le_of_ble_eq_true rfl, Nat.le_of_ble_eq_true rfl⟩), hts (.static yX5_bit) (by decide +kernel)⟩ hK hG hP hD hS hA [] rfl rfl rfl hl.1 rfl (Nat.le_of_ble_eq_true rfl) dX1_all_4 ⟨Nat.le_of_ble_eq_true rfl, Nat.le_of_ble_eq_true rfl⟩) hP hD hS hA [] rfl (fun r1 u H locs hw hP hS => ?_)
  try dsimp only at hw
  refine lv_iconst (v := 1) hx hb dX1_all_7 (by decide) ?_
  refine lv_isub hx hb dX1_all_8 ?_
  exact fin_i () hx hb hr hlocks hK hS hP hD hw dX1_all_9

abbrev w0_X0_bestSet (G : mG) (qx : Nat) (qxo : Nat) (qxc : Nat) (qxt : Nat) (qd : Nat) (qdb : Nat) (qde : Nat) (qdf : Nat) (ho : Nat → Int32) (hc : Nat → Int32) (ht : Nat → Int32) (db : Nat → Int32) (de : Nat → Int32) (df : Nat → Int32) (dc : Int32) (dp : Int32) (dk : Int32) : va_W := [(qx, .inr (0, [.ref qxo, .ref qxc, .ref qxt])), (qxo, .inl (gI G, (14, .inl ho))), (qxc, .inl (gI G, (14, .inl hc))), (qxt, .inl (gI G, (15, .inl ht))), (qd, .inr (1, [.ref qdb, .ref qde, .ref qdf, .int dc, .int dp, .int dk])), (qdb, .inl (gI G, (14, .inl db))), (qde, .inl (gI G, (14, .inl de))), (qdf, .inl (gI G, (14, .inl df)))]
set_option maxRecDepth 100000 in
theorem k_X0_bestSet_inX1 : ∀ w ∈ u_ws RX1 TX1 6, w ∈ wsX0_bestSet := by decide +kernel
set_option maxRecDepth 100000 in
theorem k_X0_bestSet_f21 : Cond.fieldLink RX0 21 "RehearsalRoom$Day" "count" "I" ∈ wsX0_bestSet := by decide +kernel
set_option maxHeartbeats 8000000 in
set_option maxRecDepth 100000 in
theorem cn_X0_bestSet (l : Launch) (G : mG) (qx : Nat) (qxo : Nat) (qxc : Nat) (qxt : Nat) (qd : Nat) (qdb : Nat) (qde : Nat) (qdf : Nat) (ho : Nat → Int32) (hc : Nat → Int32) (ht : Nat → Int32) (db : Nat → Int32) (de : Nat → Int32) (df : Nat → Int32) (dc : Int32) (dp : Int32) (dk : Int32) {Q : Int32 → (Nat → Int32) → (Nat → Int32) → Prop} (hw : wn_X0_bestSet ho ht db de df dc dp Q) (sz : Nat) :
    Met l yX0_bestSet wsX0_bestSet ({ frames := 3, cells := 0, slots := 0, locals := 66 } : Room) (va_Pc [.ref qx, .ref qd] (mPre G (w0_X0_bestSet G qx qxo qxc qxt qd qdb qde qdf ho hc ht db de df dc dp dk) sz)) (va_Qi (fun (r : Int32) (u : (Nat → Int32) × (Nat → Int32)) => Q r u.1 u.2) (mBk G (va_A (w0_X0_bestSet G qx qxo qxc qxt qd qdb qde qdf ho hc ht db de df dc dp dk) sz) (fun (u : (Nat → Int32) × (Nat → Int32)) => (w0_X0_bestSet G qx qxo qxc qxt qd qdb qde qdf u.1 hc u.2 db de df dc dp dk))) (va_A (w0_X0_bestSet G qx qxo qxc qxt qd qdb qde qdf ho hc ht db de df dc dp dk) sz)) 0 0 (va_A (w0_X0_bestSet G qx qxo qxc qxt qd qdb qde qdf ho hc ht db de df dc dp dk) sz) := by
  refine ms_i (cc := cX0_bestSet) (maxL := 6) (ret := some .int) (post := (fun (r : Int32) (u : (Nat → Int32) × (Nat → Int32)) => Q r u.1 u.2)) (w1 := (fun (u : (Nat → Int32) × (Nat → Int32)) => (w0_X0_bestSet G qx qxo qxc qxt qd qdb qde qdf u.1 hc u.2 db de df dc dp dk))) (by decide) rfl (Nat.le_of_ble_eq_true rfl) ?_ sz
  intro p e s m below meth c A ls H locs hx hb hr hml hown hts hlocks hK hG hP hD hS hA hl
  have hown : s.vm.findClass RX0 = some m.cls := hown
  have hl : lv_has ls 6 [(0, .ref qx), (1, .ref qd)] := hl
  have J20 : ∀ (n : Nat) (ho : Nat → Int32) (ht : Nat → Int32) (x2 : Int32) (x3 : Int32) (x4 : Int32) (H : Heap) (locs : List Loc) (ls : Array Slot), va_P (gD G) vwCl (w0_X0_bestSet G qx qxo qxc qxt qd qdb qde qdf ho hc ht db de df dc dp dk) H → va_D A (w0_X0_bestSet G qx qxo qxc qxt qd qdb qde qdf ho hc ht db de df dc dp dk) → va_S A s.heap H locs → lv_has ls 6 [(0, .ref qx), (1, .ref qd), (2, .int x2), (3, .int x3), (4, .int x4)] → wl_n_X0_bestSet_20 db de df dc dp Q n ho ht x2 x3 x4 → W p l e ({ frames := 3, cells := 0, slots := 0, locals := 66 } : Room) s m ([.ref qx, .ref qd] : List Value).toArray below meth c H locs 0 0 (MQ below (va_Qi (fun (r : Int32) (u : (Nat → Int32) × (Nat → Int32)) => Q r u.1 u.2) (mBk G A (fun (u : (Nat → Int32) × (Nat → Int32)) => (w0_X0_bestSet G qx qxo qxc qxt qd qdb qde qdf u.1 hc u.2 db de df dc dp dk))) A) ([.ref qx, .ref qd] : List Value).toArray s 0 0 A) (F0 m 20 ls []) := by
    intro n
    induction n with
    | zero => intro ho ht x2 x3 x4 H locs ls hP hD hS hl hw; exact False.elim hw
    | succ n ih =>
      intro ho ht x2 x3 x4 H locs ls hP hD hS hl hw
      rw [wl_n_X0_bestSet_20] at hw
      refine lv_iload hx hb dX0_bestSet_20 (lv_at hl 4 rfl) ?_
      refine lv_if_lt (tgt := 56) hx hb dX0_bestSet_22 (by decide) (fun cd5 => ?_) (fun cd5 => ?_)
      · have hw := hw.1 cd5
        refine lv_iload_n hx hb dX0_bestSet_56 rfl (lv_at hl 2 rfl) ?_
        exact fin_i (ho, ht) hx hb hr hlocks hK hS hP hD hw dX0_bestSet_57
      · have hw := hw.2 cd5
        refine lv_iload_n hx hb dX0_bestSet_25 rfl (lv_at hl 2 rfl) ?_
        refine lv_iload hx hb dX0_bestSet_26 (lv_at hl 4 rfl) ?_
        refine kcR_i (kr_SN [.int x2] ⟨hx, hb, hml, hown, hts⟩ (cn_X5_bit l G x4 hw H.size) ⟨(va_cnB 1 hts gX0_bestSet_X5_bit_n72 rfl rfl rfl (hG.1 (RX0, 72, yX5_bit) (by decide +kernel)) (hts (.initialized RX5) (by decide +kernel)) (by decide +kernel) ⟨Nat.le_of_ble_eq_true rfl, Nat.le_of_ble_eq_true rfl⟩), hts (.static yX5_bit) (by decide +kernel)⟩ hK hG hP hD hS hA [] rfl rfl rfl hl.1 rfl (Nat.le_of_ble_eq_true rfl) dX0_bestSet_28 ⟨Nat.le_of_ble_eq_true rfl, Nat.le_of_ble_eq_true rfl⟩) hP hD hS hA [] rfl (fun r6 u H locs hw hP hS => ?_)
        try dsimp only at hw
        refine lv_iconst (v := -1) hx hb dX0_bestSet_31 (by decide) ?_
        refine lv_ixor hx hb dX0_bestSet_32 ?_
        refine lv_iand hx hb dX0_bestSet_33 ?_
        refine lv_istore (lv' := [(5, .int (x2 &&& (r6 ^^^ (-1 : Int32)))), (0, .ref qx), (1, .ref qd), (2, .int x2), (3, .int x3), (4, .int x4)]) hx hb dX0_bestSet_34 hl (by decide) rfl (fun ls hl => ?_)
        refine lv_aload_n hx hb dX0_bestSet_36 rfl (lv_at hl 1 rfl) ?_
        refine lv_aload_n hx hb dX0_bestSet_37 rfl (lv_at hl 2 rfl) ?_
        refine lv_iload hx hb dX0_bestSet_38 (lv_at hl 0 rfl) ?_
        refine kc_i (kr_V [] ⟨hx, hb, hml, hown, hts⟩ (cn_X0_fameAmong l G qx qxo qxc qxt qd qdb qde qdf ho hc ht db de df dc dp dk (x2 &&& (r6 ^^^ (-1 : Int32))) hw H.size) (cwV 2 hts gX0_bestSet_X0_fameAmong rfl rfl rfl (by decide +kernel) ⟨Nat.le_of_ble_eq_true rfl, Nat.le_of_ble_eq_true rfl⟩) hK hG hP hD hS hA [0, 1, 2, 3, 4, 5, 6, 7] rfl rfl 0 0 rfl rfl rfl hl.1 rfl (Nat.le_of_ble_eq_true rfl) dX0_bestSet_40 ⟨Nat.le_of_ble_eq_true rfl, Nat.le_of_ble_eq_true rfl⟩) hP hD hS hA [0, 1, 2, 3, 4, 5, 6, 7] [] rfl rfl rfl (by decide) (fun r7 u H locs hw hP hD hS => ?_)
        obtain ⟨ho_8, ht_9⟩ := u
        try dsimp only at hw
        have hP := hP.sub (ws' := (w0_X0_bestSet G qx qxo qxc qxt qd qdb qde qdf ho_8 hc ht_9 db de df dc dp dk)) [0, 1, 2, 3, 4, 5, 6, 7] rfl
        have hD := hD.sub (ws' := (w0_X0_bestSet G qx qxo qxc qxt qd qdb qde qdf ho_8 hc ht_9 db de df dc dp dk)) [0, 1, 2, 3, 4, 5, 6, 7] rfl rfl
        refine lv_iload_n hx hb dX0_bestSet_43 rfl (lv_at hl 4 rfl) ?_
        refine lv_icmp_ne (tgt := 50) hx hb dX0_bestSet_44 (by decide) (fun cd10 => ?_) (fun cd10 => ?_)
        · have hw := hw.1 cd10
          refine lv_iinc (v := (x4 + (-1))) (lv' := [(4, .int (x4 + (-1))), (5, .int (x2 &&& (r6 ^^^ (-1 : Int32)))), (0, .ref qx), (1, .ref qd), (2, .int x2), (3, .int x3)]) hx hb dX0_bestSet_50 hl (k := 5) rfl rfl (by decide) rfl (fun ls hl => ?_)
          refine lv_goto (tgt := 20) hx hb dX0_bestSet_53 (by decide) ?_
          exact ih ho_8 ht_9 x2 x3 (x4 + (-1)) _ _ _ hP hD hS (lv_sub hl [2, 3, 4, 5, 0] rfl) hw
        · have hw := hw.2 cd10
          refine lv_iload hx hb dX0_bestSet_47 (lv_at hl 0 rfl) ?_
          refine lv_istore_n (lv' := [(2, .int (x2 &&& (r6 ^^^ (-1 : Int32)))), (5, .int (x2 &&& (r6 ^^^ (-1 : Int32)))), (0, .ref qx), (1, .ref qd), (3, .int x3), (4, .int x4)]) hx hb dX0_bestSet_49 rfl hl (by decide) rfl (fun ls hl => ?_)
          refine lv_iinc (v := (x4 + (-1))) (lv' := [(4, .int (x4 + (-1))), (2, .int (x2 &&& (r6 ^^^ (-1 : Int32)))), (5, .int (x2 &&& (r6 ^^^ (-1 : Int32)))), (0, .ref qx), (1, .ref qd), (3, .int x3)]) hx hb dX0_bestSet_50 hl (k := 5) rfl rfl (by decide) rfl (fun ls hl => ?_)
          refine lv_goto (tgt := 20) hx hb dX0_bestSet_53 (by decide) ?_
          exact ih ho_8 ht_9 (x2 &&& (r6 ^^^ (-1 : Int32))) x3 (x4 + (-1)) _ _ _ hP hD hS (lv_sub hl [3, 4, 1, 5, 0] rfl) hw
  unfold wn_X0_bestSet at hw
  refine lv_aload_n hx hb dX0_bestSet_0 rfl (lv_at hl 1 rfl) ?_
  refine kcR_i (kr_V [] ⟨hx, hb, hml, hown, hts⟩ (cn_X1_all l G qd qdb qde qdf db de df dc dp dk hw H.size) (cwV 0 hts gX0_bestSet_X1_all rfl rfl rfl (by decide +kernel) ⟨Nat.le_of_ble_eq_true rfl, Nat.le_of_ble_eq_true rfl⟩) hK hG hP hD hS hA [4, 5, 6, 7] rfl rfl 1 4 rfl rfl rfl hl.1 rfl (Nat.le_of_ble_eq_true rfl) dX0_bestSet_1 ⟨Nat.le_of_ble_eq_true rfl, Nat.le_of_ble_eq_true rfl⟩) hP hD hS hA [4, 5, 6, 7] rfl (fun r1 u H locs hw hP hS => ?_)
  try dsimp only at hw
  refine lv_istore_n (lv' := [(2, .int r1), (0, .ref qx), (1, .ref qd)]) hx hb dX0_bestSet_4 rfl hl (by decide) rfl (fun ls hl => ?_)
  refine lv_aload_n hx hb dX0_bestSet_5 rfl (lv_at hl 1 rfl) ?_
  refine lv_aload_n hx hb dX0_bestSet_6 rfl (lv_at hl 2 rfl) ?_
  refine lv_iload_n hx hb dX0_bestSet_7 rfl (lv_at hl 0 rfl) ?_
  refine kc_i (kr_V [] ⟨hx, hb, hml, hown, hts⟩ (cn_X0_fameAmong l G qx qxo qxc qxt qd qdb qde qdf ho hc ht db de df dc dp dk r1 hw H.size) (cwV 2 hts gX0_bestSet_X0_fameAmong rfl rfl rfl (by decide +kernel) ⟨Nat.le_of_ble_eq_true rfl, Nat.le_of_ble_eq_true rfl⟩) hK hG hP hD hS hA [0, 1, 2, 3, 4, 5, 6, 7] rfl rfl 0 0 rfl rfl rfl hl.1 rfl (Nat.le_of_ble_eq_true rfl) dX0_bestSet_8 ⟨Nat.le_of_ble_eq_true rfl, Nat.le_of_ble_eq_true rfl⟩) hP hD hS hA [0, 1, 2, 3, 4, 5, 6, 7] [] rfl rfl rfl (by decide) (fun r2 u H locs hw hP hD hS => ?_)
  obtain ⟨ho_3, ht_4⟩ := u
  try dsimp only at hw
  have hP := hP.sub (ws' := (w0_X0_bestSet G qx qxo qxc qxt qd qdb qde qdf ho_3 hc ht_4 db de df dc dp dk)) [0, 1, 2, 3, 4, 5, 6, 7] rfl
  have hD := hD.sub (ws' := (w0_X0_bestSet G qx qxo qxc qxt qd qdb qde qdf ho_3 hc ht_4 db de df dc dp dk)) [0, 1, 2, 3, 4, 5, 6, 7] rfl rfl
  refine lv_istore_n (lv' := [(3, .int r2), (2, .int r1), (0, .ref qx), (1, .ref qd)]) hx hb dX0_bestSet_11 rfl hl (by decide) rfl (fun ls hl => ?_)
  refine lv_aload_n hx hb dX0_bestSet_12 rfl (lv_at hl 3 rfl) ?_
  refine va_get (D := gD G) (ci := 1) (v := .int dc) (C := RX1) (T := TX1) (N := 6) hx hb hts k_X0_bestSet_inX1 hown hK hP 4 rfl rfl 3 (by decide) (hts _ k_X0_bestSet_f21) (fun _ h9 => h9) rfl dX0_bestSet_13 ?_
  refine lv_iconst (v := 1) hx hb dX0_bestSet_16 (by decide) ?_
  refine lv_isub hx hb dX0_bestSet_17 ?_
  refine lv_istore (lv' := [(4, .int (dc - (1 : Int32))), (3, .int r2), (2, .int r1), (0, .ref qx), (1, .ref qd)]) hx hb dX0_bestSet_18 hl (by decide) rfl (fun ls hl => ?_)
  obtain ⟨n20, hw⟩ := hw
  exact J20 n20 ho_3 ht_4 r1 r2 (dc - (1 : Int32)) _ _ _ hP hD hS (lv_sub hl [3, 4, 2, 1, 0] rfl) hw

abbrev w0_X0_mostInOne (G : mG) (qx : Nat) (qxo : Nat) (qxc : Nat) (qxt : Nat) (qd : Nat) (qdb : Nat) (qde : Nat) (qdf : Nat) (ho : Nat → Int32) (hc : Nat → Int32) (ht : Nat → Int32) (db : Nat → Int32) (de : Nat → Int32) (df : Nat → Int32) (dc : Int32) (dp : Int32) (dk : Int32) : va_W := [(qx, .inr (0, [.ref qxo, .ref qxc, .ref qxt])), (qxo, .inl (gI G, (14, .inl ho))), (qxc, .inl (gI G, (14, .inl hc))), (qxt, .inl (gI G, (15, .inl ht))), (qd, .inr (1, [.ref qdb, .ref qde, .ref qdf, .int dc, .int dp, .int dk])), (qdb, .inl (gI G, (14, .inl db))), (qde, .inl (gI G, (14, .inl de))), (qdf, .inl (gI G, (14, .inl df)))]
set_option maxRecDepth 100000 in
theorem k_X0_mostInOne_inX1 : ∀ w ∈ u_ws RX1 TX1 6, w ∈ wsX0_mostInOne := by decide +kernel
set_option maxRecDepth 100000 in
theorem k_X0_mostInOne_f48 : Cond.fieldLink RX0 48 "RehearsalRoom$Day" "ends" "[I" ∈ wsX0_mostInOne := by decide +kernel
set_option maxRecDepth 100000 in
theorem k_X0_mostInOne_f21 : Cond.fieldLink RX0 21 "RehearsalRoom$Day" "count" "I" ∈ wsX0_mostInOne := by decide +kernel
set_option maxRecDepth 100000 in
theorem k_X0_mostInOne_inX0 : ∀ w ∈ u_ws RX0 TX0 3, w ∈ wsX0_mostInOne := by decide +kernel
set_option maxRecDepth 100000 in
theorem k_X0_mostInOne_f9 : Cond.fieldLink RX0 9 "RehearsalRoom$Choices" "order" "[I" ∈ wsX0_mostInOne := by decide +kernel
set_option maxRecDepth 100000 in
theorem k_X0_mostInOne_f55 : Cond.fieldLink RX0 55 "RehearsalRoom$Day" "begins" "[I" ∈ wsX0_mostInOne := by decide +kernel
set_option maxRecDepth 100000 in
theorem k_X0_mostInOne_f62 : Cond.fieldLink RX0 62 "RehearsalRoom$Day" "pause" "I" ∈ wsX0_mostInOne := by decide +kernel
set_option maxHeartbeats 8000000 in
set_option maxRecDepth 100000 in
theorem cn_X0_mostInOne (l : Launch) (G : mG) (qx : Nat) (qxo : Nat) (qxc : Nat) (qxt : Nat) (qd : Nat) (qdb : Nat) (qde : Nat) (qdf : Nat) (ho : Nat → Int32) (hc : Nat → Int32) (ht : Nat → Int32) (db : Nat → Int32) (de : Nat → Int32) (df : Nat → Int32) (dc : Int32) (dp : Int32) (dk : Int32) {Q : Int32 → (Nat → Int32) → Prop} (hw : wn_X0_mostInOne ho db de dc dp Q) (sz : Nat) :
    Met l yX0_mostInOne wsX0_mostInOne ({ frames := 1, cells := 0, slots := 0, locals := 24 } : Room) (va_Pc [.ref qx, .ref qd] (mPre G (w0_X0_mostInOne G qx qxo qxc qxt qd qdb qde qdf ho hc ht db de df dc dp dk) sz)) (va_Qi (fun (r : Int32) (u : (Nat → Int32)) => Q r u) (mBk G (va_A (w0_X0_mostInOne G qx qxo qxc qxt qd qdb qde qdf ho hc ht db de df dc dp dk) sz) (fun (u : (Nat → Int32)) => (w0_X0_mostInOne G qx qxo qxc qxt qd qdb qde qdf u hc ht db de df dc dp dk))) (va_A (w0_X0_mostInOne G qx qxo qxc qxt qd qdb qde qdf ho hc ht db de df dc dp dk) sz)) 0 0 (va_A (w0_X0_mostInOne G qx qxo qxc qxt qd qdb qde qdf ho hc ht db de df dc dp dk) sz) := by
  refine ms_i (cc := cX0_mostInOne) (maxL := 6) (ret := some .int) (post := (fun (r : Int32) (u : (Nat → Int32)) => Q r u)) (w1 := (fun (u : (Nat → Int32)) => (w0_X0_mostInOne G qx qxo qxc qxt qd qdb qde qdf u hc ht db de df dc dp dk))) (by decide) rfl (Nat.le_of_ble_eq_true rfl) ?_ sz
  intro p e s m below meth c A ls H locs hx hb hr hml hown hts hlocks hK hG hP hD hS hA hl
  have hown : s.vm.findClass RX0 = some m.cls := hown
  have hl : lv_has ls 6 [(0, .ref qx), (1, .ref qd)] := hl
  have J22 : ∀ (n : Nat) (ho : Nat → Int32) (x2 : Int32) (x3 : Int32) (x4 : Int32) (H : Heap) (locs : List Loc) (ls : Array Slot), va_P (gD G) vwCl (w0_X0_mostInOne G qx qxo qxc qxt qd qdb qde qdf ho hc ht db de df dc dp dk) H → va_D A (w0_X0_mostInOne G qx qxo qxc qxt qd qdb qde qdf ho hc ht db de df dc dp dk) → va_S A s.heap H locs → lv_has ls 6 [(0, .ref qx), (1, .ref qd), (2, .int x2), (3, .int x3), (4, .int x4)] → wl_n_X0_mostInOne_22 db de dc dp Q n ho x2 x3 x4 → W p l e ({ frames := 1, cells := 0, slots := 0, locals := 24 } : Room) s m ([.ref qx, .ref qd] : List Value).toArray below meth c H locs 0 0 (MQ below (va_Qi (fun (r : Int32) (u : (Nat → Int32)) => Q r u) (mBk G A (fun (u : (Nat → Int32)) => (w0_X0_mostInOne G qx qxo qxc qxt qd qdb qde qdf u hc ht db de df dc dp dk))) A) ([.ref qx, .ref qd] : List Value).toArray s 0 0 A) (F0 m 22 ls []) := by
    intro n
    induction n with
    | zero => intro ho x2 x3 x4 H locs ls hP hD hS hl hw; exact False.elim hw
    | succ n ih =>
      intro ho x2 x3 x4 H locs ls hP hD hS hl hw
      rw [wl_n_X0_mostInOne_22] at hw
      refine lv_iload hx hb dX0_mostInOne_22 (lv_at hl 4 rfl) ?_
      refine lv_aload_n hx hb dX0_mostInOne_24 rfl (lv_at hl 1 rfl) ?_
      refine va_get (D := gD G) (ci := 1) (v := .int dc) (C := RX1) (T := TX1) (N := 6) hx hb hts k_X0_mostInOne_inX1 hown hK hP 4 rfl rfl 3 (by decide) (hts _ k_X0_mostInOne_f21) (fun _ h9 => h9) rfl dX0_mostInOne_25 ?_
      refine lv_icmp_ge (tgt := 73) hx hb dX0_mostInOne_28 (by decide) (fun cd2 => ?_) (fun cd2 => ?_)
      · have hw := hw.1 cd2
        refine lv_iload_n hx hb dX0_mostInOne_73 rfl (lv_at hl 2 rfl) ?_
        exact fin_i (ho) hx hb hr hlocks hK hS hP hD hw dX0_mostInOne_74
      · have hw := hw.2 cd2
        refine lv_aload_n hx hb dX0_mostInOne_31 rfl (lv_at hl 0 rfl) ?_
        refine va_get (D := gD G) (ci := 0) (v := .ref qxo) (C := RX0) (T := TX0) (N := 3) hx hb hts k_X0_mostInOne_inX0 hown hK hP 0 rfl rfl 0 (by decide) (hts _ k_X0_mostInOne_f9) (fun _ h9 => h9) rfl dX0_mostInOne_32 ?_
        refine lv_iload hx hb dX0_mostInOne_35 (lv_at hl 4 rfl) ?_
        obtain ⟨h3, hw⟩ := hw
        refine va_iald hx hb hK hP 1 0 rfl rfl h3 dX0_mostInOne_37 ?_
        refine lv_istore (lv' := [(5, .int (ho x4.toNatClampNeg)), (0, .ref qx), (1, .ref qd), (2, .int x2), (3, .int x3), (4, .int x4)]) hx hb dX0_mostInOne_38 hl (by decide) rfl (fun ls hl => ?_)
        refine lv_aload_n hx hb dX0_mostInOne_40 rfl (lv_at hl 2 rfl) ?_
        refine va_get (D := gD G) (ci := 1) (v := .ref qdb) (C := RX1) (T := TX1) (N := 6) hx hb hts k_X0_mostInOne_inX1 hown hK hP 4 rfl rfl 0 (by decide) (hts _ k_X0_mostInOne_f55) (fun _ h9 => h9) rfl dX0_mostInOne_41 ?_
        refine lv_iload hx hb dX0_mostInOne_44 (lv_at hl 0 rfl) ?_
        obtain ⟨h4, hw⟩ := hw
        refine va_iald hx hb hK hP 5 0 rfl rfl h4 dX0_mostInOne_46 ?_
        refine lv_iload_n hx hb dX0_mostInOne_47 rfl (lv_at hl 4 rfl) ?_
        refine lv_icmp_lt (tgt := 67) hx hb dX0_mostInOne_48 (by decide) (fun cd5 => ?_) (fun cd5 => ?_)
        · have hw := hw.1 cd5
          refine lv_iinc (v := (x4 + 1)) (lv' := [(4, .int (x4 + 1)), (5, .int (ho x4.toNatClampNeg)), (0, .ref qx), (1, .ref qd), (2, .int x2), (3, .int x3)]) hx hb dX0_mostInOne_67 hl (k := 5) rfl rfl (by decide) rfl (fun ls hl => ?_)
          refine lv_goto (tgt := 22) hx hb dX0_mostInOne_70 (by decide) ?_
          exact ih ho x2 x3 (x4 + 1) _ _ _ hP hD hS (lv_sub hl [2, 3, 4, 5, 0] rfl) hw
        · have hw := hw.2 cd5
          refine lv_iinc (v := (x2 + 1)) (lv' := [(2, .int (x2 + 1)), (5, .int (ho x4.toNatClampNeg)), (0, .ref qx), (1, .ref qd), (3, .int x3), (4, .int x4)]) hx hb dX0_mostInOne_51 hl (k := 3) rfl rfl (by decide) rfl (fun ls hl => ?_)
          refine lv_aload_n hx hb dX0_mostInOne_54 rfl (lv_at hl 3 rfl) ?_
          refine va_get (D := gD G) (ci := 1) (v := .ref qde) (C := RX1) (T := TX1) (N := 6) hx hb hts k_X0_mostInOne_inX1 hown hK hP 4 rfl rfl 1 (by decide) (hts _ k_X0_mostInOne_f48) (fun _ h9 => h9) rfl dX0_mostInOne_55 ?_
          refine lv_iload hx hb dX0_mostInOne_58 (lv_at hl 1 rfl) ?_
          obtain ⟨h6, hw⟩ := hw
          refine va_iald hx hb hK hP 6 0 rfl rfl h6 dX0_mostInOne_60 ?_
          refine lv_aload_n hx hb dX0_mostInOne_61 rfl (lv_at hl 3 rfl) ?_
          refine va_get (D := gD G) (ci := 1) (v := .int dp) (C := RX1) (T := TX1) (N := 6) hx hb hts k_X0_mostInOne_inX1 hown hK hP 4 rfl rfl 4 (by decide) (hts _ k_X0_mostInOne_f62) (fun _ h9 => h9) rfl dX0_mostInOne_62 ?_
          refine lv_iadd hx hb dX0_mostInOne_65 ?_
          refine lv_istore_n (lv' := [(3, .int ((de (ho x4.toNatClampNeg).toNatClampNeg) + dp)), (2, .int (x2 + 1)), (5, .int (ho x4.toNatClampNeg)), (0, .ref qx), (1, .ref qd), (4, .int x4)]) hx hb dX0_mostInOne_66 rfl hl (by decide) rfl (fun ls hl => ?_)
          refine lv_iinc (v := (x4 + 1)) (lv' := [(4, .int (x4 + 1)), (3, .int ((de (ho x4.toNatClampNeg).toNatClampNeg) + dp)), (2, .int (x2 + 1)), (5, .int (ho x4.toNatClampNeg)), (0, .ref qx), (1, .ref qd)]) hx hb dX0_mostInOne_67 hl (k := 5) rfl rfl (by decide) rfl (fun ls hl => ?_)
          refine lv_goto (tgt := 22) hx hb dX0_mostInOne_70 (by decide) ?_
          exact ih ho (x2 + 1) ((de (ho x4.toNatClampNeg).toNatClampNeg) + dp) (x4 + 1) _ _ _ hP hD hS (lv_sub hl [4, 5, 2, 1, 0] rfl) hw
  unfold wn_X0_mostInOne at hw
  refine lv_aload_n hx hb dX0_mostInOne_0 rfl (lv_at hl 1 rfl) ?_
  refine va_get (D := gD G) (ci := 1) (v := .ref qde) (C := RX1) (T := TX1) (N := 6) hx hb hts k_X0_mostInOne_inX1 hown hK hP 4 rfl rfl 1 (by decide) (hts _ k_X0_mostInOne_f48) (fun _ h9 => h9) rfl dX0_mostInOne_1 ?_
  refine lv_aload_n hx hb dX0_mostInOne_4 rfl (lv_at hl 1 rfl) ?_
  refine va_get (D := gD G) (ci := 1) (v := .int dc) (C := RX1) (T := TX1) (N := 6) hx hb hts k_X0_mostInOne_inX1 hown hK hP 4 rfl rfl 3 (by decide) (hts _ k_X0_mostInOne_f21) (fun _ h9 => h9) rfl dX0_mostInOne_5 ?_
  refine lv_aload_n hx hb dX0_mostInOne_8 rfl (lv_at hl 0 rfl) ?_
  refine va_get (D := gD G) (ci := 0) (v := .ref qxo) (C := RX0) (T := TX0) (N := 3) hx hb hts k_X0_mostInOne_inX0 hown hK hP 0 rfl rfl 0 (by decide) (hts _ k_X0_mostInOne_f9) (fun _ h9 => h9) rfl dX0_mostInOne_9 ?_
  refine kc_v (kr_SN [] ⟨hx, hb, hml, hown, hts⟩ (cn_X5_orderBy l G qde qxo de ho dc hw H.size) ⟨(va_cnB 3 hts gX0_mostInOne_X5_orderBy_n51 rfl rfl rfl (hG.1 (RX0, 51, yX5_orderBy) (by decide +kernel)) (hts (.initialized RX5) (by decide +kernel)) (by decide +kernel) ⟨Nat.le_of_ble_eq_true rfl, Nat.le_of_ble_eq_true rfl⟩), hts (.static yX5_orderBy) (by decide +kernel)⟩ hK hG hP hD hS hA [6, 1] rfl rfl rfl hl.1 rfl (Nat.le_of_ble_eq_true rfl) dX0_mostInOne_12 ⟨Nat.le_of_ble_eq_true rfl, Nat.le_of_ble_eq_true rfl⟩) hP hD hS hA [6, 1] [0, 2, 3, 4, 5, 7] rfl rfl rfl (by decide) (fun u H locs hw hP hD hS => ?_)
  obtain ⟨vv_1, rfl⟩ : ∃ z, z = u := ⟨_, rfl⟩
  try dsimp only at hw
  have hP := hP.sub (ws' := (w0_X0_mostInOne G qx qxo qxc qxt qd qdb qde qdf vv_1 hc ht db de df dc dp dk)) [0, 7, 1, 2, 3, 4, 6, 5] rfl
  have hD := hD.sub (ws' := (w0_X0_mostInOne G qx qxo qxc qxt qd qdb qde qdf vv_1 hc ht db de df dc dp dk)) [0, 7, 1, 2, 3, 4, 6, 5] rfl rfl
  refine lv_iconst (v := 0) hx hb dX0_mostInOne_15 (by decide) ?_
  refine lv_istore_n (lv' := [(2, .int (0 : Int32)), (0, .ref qx), (1, .ref qd)]) hx hb dX0_mostInOne_16 rfl hl (by decide) rfl (fun ls hl => ?_)
  refine lv_iconst (v := 0) hx hb dX0_mostInOne_17 (by decide) ?_
  refine lv_istore_n (lv' := [(3, .int (0 : Int32)), (2, .int (0 : Int32)), (0, .ref qx), (1, .ref qd)]) hx hb dX0_mostInOne_18 rfl hl (by decide) rfl (fun ls hl => ?_)
  refine lv_iconst (v := 0) hx hb dX0_mostInOne_19 (by decide) ?_
  refine lv_istore (lv' := [(4, .int (0 : Int32)), (3, .int (0 : Int32)), (2, .int (0 : Int32)), (0, .ref qx), (1, .ref qd)]) hx hb dX0_mostInOne_20 hl (by decide) rfl (fun ls hl => ?_)
  obtain ⟨n22, hw⟩ := hw
  exact J22 n22 vv_1 (0 : Int32) (0 : Int32) (0 : Int32) _ _ _ hP hD hS (lv_sub hl [3, 4, 2, 1, 0] rfl) hw

abbrev w0_X1_copyRehearsal_two (G : mG) (qd : Nat) (qdb : Nat) (qde : Nat) (qdf : Nat) (qo : Nat) (qob : Nat) (qoe : Nat) (qof : Nat) (db : Nat → Int32) (de : Nat → Int32) (df : Nat → Int32) (dc : Int32) (dp : Int32) (dk : Int32) (ob : Nat → Int32) (oe : Nat → Int32) (of : Nat → Int32) (oc : Int32) (op : Int32) (ok : Int32) : va_W := [(qd, .inr (1, [.ref qdb, .ref qde, .ref qdf, .int dc, .int dp, .int dk])), (qdb, .inl (gI G, (14, .inl db))), (qde, .inl (gI G, (14, .inl de))), (qdf, .inl (gI G, (14, .inl df))), (qo, .inr (1, [.ref qob, .ref qoe, .ref qof, .int oc, .int op, .int ok])), (qob, .inl (gI G, (14, .inl ob))), (qoe, .inl (gI G, (14, .inl oe))), (qof, .inl (gI G, (14, .inl of)))]
set_option maxRecDepth 100000 in
theorem k_X1_copyRehearsal_inX1 : ∀ w ∈ u_ws RX1 TX1 6, w ∈ wsX1_copyRehearsal := by decide +kernel
set_option maxRecDepth 100000 in
theorem k_X1_copyRehearsal_f9 : Cond.fieldLink RX1 9 "RehearsalRoom$Day" "begins" "[I" ∈ wsX1_copyRehearsal := by decide +kernel
set_option maxRecDepth 100000 in
theorem k_X1_copyRehearsal_f15 : Cond.fieldLink RX1 15 "RehearsalRoom$Day" "ends" "[I" ∈ wsX1_copyRehearsal := by decide +kernel
set_option maxRecDepth 100000 in
theorem k_X1_copyRehearsal_f18 : Cond.fieldLink RX1 18 "RehearsalRoom$Day" "fames" "[I" ∈ wsX1_copyRehearsal := by decide +kernel
set_option maxHeartbeats 8000000 in
set_option maxRecDepth 100000 in
theorem cn_X1_copyRehearsal_two (l : Launch) (G : mG) (qd : Nat) (qdb : Nat) (qde : Nat) (qdf : Nat) (qo : Nat) (qob : Nat) (qoe : Nat) (qof : Nat) (db : Nat → Int32) (de : Nat → Int32) (df : Nat → Int32) (dc : Int32) (dp : Int32) (dk : Int32) (ob : Nat → Int32) (oe : Nat → Int32) (of : Nat → Int32) (oc : Int32) (op : Int32) (ok : Int32) (a2 : Int32) (a3 : Int32) {Q : (Nat → Int32) → (Nat → Int32) → (Nat → Int32) → Prop} (hw : wn_X1_copyRehearsal_two db de df ob oe of a2 a3 Q) (sz : Nat) :
    Met l yX1_copyRehearsal wsX1_copyRehearsal ({ frames := 0, cells := 0, slots := 0, locals := 0 } : Room) (va_Pc [.ref qd, .ref qo, .int a2, .int a3] (mPre G (w0_X1_copyRehearsal_two G qd qdb qde qdf qo qob qoe qof db de df dc dp dk ob oe of oc op ok) sz)) (va_Qv (fun (u : (Nat → Int32) × (Nat → Int32) × (Nat → Int32)) => Q u.1 u.2.1 u.2.2) (mBk G (va_A (w0_X1_copyRehearsal_two G qd qdb qde qdf qo qob qoe qof db de df dc dp dk ob oe of oc op ok) sz) (fun (u : (Nat → Int32) × (Nat → Int32) × (Nat → Int32)) => (w0_X1_copyRehearsal_two G qd qdb qde qdf qo qob qoe qof u.1 u.2.1 u.2.2 dc dp dk ob oe of oc op ok))) (va_A (w0_X1_copyRehearsal_two G qd qdb qde qdf qo qob qoe qof db de df dc dp dk ob oe of oc op ok) sz)) 0 0 (va_A (w0_X1_copyRehearsal_two G qd qdb qde qdf qo qob qoe qof db de df dc dp dk ob oe of oc op ok) sz) := by
  refine ms_v (cc := cX1_copyRehearsal) (maxL := 4) (ret := none) (post := (fun (u : (Nat → Int32) × (Nat → Int32) × (Nat → Int32)) => Q u.1 u.2.1 u.2.2)) (w1 := (fun (u : (Nat → Int32) × (Nat → Int32) × (Nat → Int32)) => (w0_X1_copyRehearsal_two G qd qdb qde qdf qo qob qoe qof u.1 u.2.1 u.2.2 dc dp dk ob oe of oc op ok))) (by decide) rfl (Nat.le_of_ble_eq_true rfl) ?_ sz
  intro p e s m below meth c A ls H locs hx hb hr hml hown hts hlocks hK hG hP hD hS hA hl
  have hown : s.vm.findClass RX1 = some m.cls := hown
  have hl : lv_has ls 4 [(0, .ref qd), (1, .ref qo), (2, .int a2), (3, .int a3)] := hl
  unfold wn_X1_copyRehearsal_two at hw
  refine lv_aload_n hx hb dX1_copyRehearsal_0 rfl (lv_at hl 0 rfl) ?_
  refine va_get (D := gD G) (ci := 1) (v := .ref qdb) (C := RX1) (T := TX1) (N := 6) hx hb hts k_X1_copyRehearsal_inX1 hown hK hP 0 rfl rfl 0 (by decide) (hts _ k_X1_copyRehearsal_f9) (fun _ h9 => h9) rfl dX1_copyRehearsal_1 ?_
  refine lv_iload_n hx hb dX1_copyRehearsal_4 rfl (lv_at hl 3 rfl) ?_
  refine lv_aload_n hx hb dX1_copyRehearsal_5 rfl (lv_at hl 1 rfl) ?_
  refine va_get (D := gD G) (ci := 1) (v := .ref qob) (C := RX1) (T := TX1) (N := 6) hx hb hts k_X1_copyRehearsal_inX1 hown hK hP 4 rfl rfl 0 (by decide) (hts _ k_X1_copyRehearsal_f9) (fun _ h9 => h9) rfl dX1_copyRehearsal_6 ?_
  refine lv_iload_n hx hb dX1_copyRehearsal_9 rfl (lv_at hl 2 rfl) ?_
  obtain ⟨h1, hw⟩ := hw
  refine va_iald hx hb hK hP 5 0 rfl rfl h1 dX1_copyRehearsal_10 ?_
  obtain ⟨h2, hw⟩ := hw
  refine va_iast hx hb hK hP hD hS 1 0 rfl rfl h2 dX1_copyRehearsal_11 (fun H locs hP hD hS => ?_)
  have hP : va_P (gD G) vwCl (w0_X1_copyRehearsal_two G qd qdb qde qdf qo qob qoe qof (upd db a3.toNatClampNeg (ob a2.toNatClampNeg)) de df dc dp dk ob oe of oc op ok) H := hP
  have hD : va_D A (w0_X1_copyRehearsal_two G qd qdb qde qdf qo qob qoe qof (upd db a3.toNatClampNeg (ob a2.toNatClampNeg)) de df dc dp dk ob oe of oc op ok) := hD
  refine lv_aload_n hx hb dX1_copyRehearsal_12 rfl (lv_at hl 0 rfl) ?_
  refine va_get (D := gD G) (ci := 1) (v := .ref qde) (C := RX1) (T := TX1) (N := 6) hx hb hts k_X1_copyRehearsal_inX1 hown hK hP 0 rfl rfl 1 (by decide) (hts _ k_X1_copyRehearsal_f15) (fun _ h9 => h9) rfl dX1_copyRehearsal_13 ?_
  refine lv_iload_n hx hb dX1_copyRehearsal_16 rfl (lv_at hl 3 rfl) ?_
  refine lv_aload_n hx hb dX1_copyRehearsal_17 rfl (lv_at hl 1 rfl) ?_
  refine va_get (D := gD G) (ci := 1) (v := .ref qoe) (C := RX1) (T := TX1) (N := 6) hx hb hts k_X1_copyRehearsal_inX1 hown hK hP 4 rfl rfl 1 (by decide) (hts _ k_X1_copyRehearsal_f15) (fun _ h9 => h9) rfl dX1_copyRehearsal_18 ?_
  refine lv_iload_n hx hb dX1_copyRehearsal_21 rfl (lv_at hl 2 rfl) ?_
  obtain ⟨h3, hw⟩ := hw
  refine va_iald hx hb hK hP 6 0 rfl rfl h3 dX1_copyRehearsal_22 ?_
  obtain ⟨h4, hw⟩ := hw
  refine va_iast hx hb hK hP hD hS 2 0 rfl rfl h4 dX1_copyRehearsal_23 (fun H locs hP hD hS => ?_)
  have hP : va_P (gD G) vwCl (w0_X1_copyRehearsal_two G qd qdb qde qdf qo qob qoe qof (upd db a3.toNatClampNeg (ob a2.toNatClampNeg)) (upd de a3.toNatClampNeg (oe a2.toNatClampNeg)) df dc dp dk ob oe of oc op ok) H := hP
  have hD : va_D A (w0_X1_copyRehearsal_two G qd qdb qde qdf qo qob qoe qof (upd db a3.toNatClampNeg (ob a2.toNatClampNeg)) (upd de a3.toNatClampNeg (oe a2.toNatClampNeg)) df dc dp dk ob oe of oc op ok) := hD
  refine lv_aload_n hx hb dX1_copyRehearsal_24 rfl (lv_at hl 0 rfl) ?_
  refine va_get (D := gD G) (ci := 1) (v := .ref qdf) (C := RX1) (T := TX1) (N := 6) hx hb hts k_X1_copyRehearsal_inX1 hown hK hP 0 rfl rfl 2 (by decide) (hts _ k_X1_copyRehearsal_f18) (fun _ h9 => h9) rfl dX1_copyRehearsal_25 ?_
  refine lv_iload_n hx hb dX1_copyRehearsal_28 rfl (lv_at hl 3 rfl) ?_
  refine lv_aload_n hx hb dX1_copyRehearsal_29 rfl (lv_at hl 1 rfl) ?_
  refine va_get (D := gD G) (ci := 1) (v := .ref qof) (C := RX1) (T := TX1) (N := 6) hx hb hts k_X1_copyRehearsal_inX1 hown hK hP 4 rfl rfl 2 (by decide) (hts _ k_X1_copyRehearsal_f18) (fun _ h9 => h9) rfl dX1_copyRehearsal_30 ?_
  refine lv_iload_n hx hb dX1_copyRehearsal_33 rfl (lv_at hl 2 rfl) ?_
  obtain ⟨h5, hw⟩ := hw
  refine va_iald hx hb hK hP 7 0 rfl rfl h5 dX1_copyRehearsal_34 ?_
  obtain ⟨h6, hw⟩ := hw
  refine va_iast hx hb hK hP hD hS 3 0 rfl rfl h6 dX1_copyRehearsal_35 (fun H locs hP hD hS => ?_)
  have hP : va_P (gD G) vwCl (w0_X1_copyRehearsal_two G qd qdb qde qdf qo qob qoe qof (upd db a3.toNatClampNeg (ob a2.toNatClampNeg)) (upd de a3.toNatClampNeg (oe a2.toNatClampNeg)) (upd df a3.toNatClampNeg (of a2.toNatClampNeg)) dc dp dk ob oe of oc op ok) H := hP
  have hD : va_D A (w0_X1_copyRehearsal_two G qd qdb qde qdf qo qob qoe qof (upd db a3.toNatClampNeg (ob a2.toNatClampNeg)) (upd de a3.toNatClampNeg (oe a2.toNatClampNeg)) (upd df a3.toNatClampNeg (of a2.toNatClampNeg)) dc dp dk ob oe of oc op ok) := hD
  exact fin_v ((upd db a3.toNatClampNeg (ob a2.toNatClampNeg)), (upd de a3.toNatClampNeg (oe a2.toNatClampNeg)), (upd df a3.toNatClampNeg (of a2.toNatClampNeg))) hx hb hr hlocks hK hS hP hD hw dX1_copyRehearsal_36

abbrev w0_X1_copyFrom (G : mG) (qd : Nat) (qdb : Nat) (qde : Nat) (qdf : Nat) (qo : Nat) (qob : Nat) (qoe : Nat) (qof : Nat) (db : Nat → Int32) (de : Nat → Int32) (df : Nat → Int32) (dc : Int32) (dp : Int32) (dk : Int32) (ob : Nat → Int32) (oe : Nat → Int32) (of : Nat → Int32) (oc : Int32) (op : Int32) (ok : Int32) : va_W := [(qd, .inr (1, [.ref qdb, .ref qde, .ref qdf, .int dc, .int dp, .int dk])), (qdb, .inl (gI G, (14, .inl db))), (qde, .inl (gI G, (14, .inl de))), (qdf, .inl (gI G, (14, .inl df))), (qo, .inr (1, [.ref qob, .ref qoe, .ref qof, .int oc, .int op, .int ok])), (qob, .inl (gI G, (14, .inl ob))), (qoe, .inl (gI G, (14, .inl oe))), (qof, .inl (gI G, (14, .inl of)))]
set_option maxRecDepth 100000 in
theorem k_X1_copyFrom_inX1 : ∀ w ∈ u_ws RX1 TX1 6, w ∈ wsX1_copyFrom := by decide +kernel
set_option maxRecDepth 100000 in
theorem k_X1_copyFrom_f21 : Cond.fieldLink RX1 21 "RehearsalRoom$Day" "count" "I" ∈ wsX1_copyFrom := by decide +kernel
set_option maxRecDepth 100000 in
theorem k_X1_copyFrom_f25 : Cond.fieldLink RX1 25 "RehearsalRoom$Day" "pause" "I" ∈ wsX1_copyFrom := by decide +kernel
set_option maxRecDepth 100000 in
theorem k_X1_copyFrom_f28 : Cond.fieldLink RX1 28 "RehearsalRoom$Day" "bookings" "I" ∈ wsX1_copyFrom := by decide +kernel
set_option maxHeartbeats 8000000 in
set_option maxRecDepth 100000 in
theorem cn_X1_copyFrom (l : Launch) (G : mG) (qd : Nat) (qdb : Nat) (qde : Nat) (qdf : Nat) (qo : Nat) (qob : Nat) (qoe : Nat) (qof : Nat) (db : Nat → Int32) (de : Nat → Int32) (df : Nat → Int32) (dc : Int32) (dp : Int32) (dk : Int32) (ob : Nat → Int32) (oe : Nat → Int32) (of : Nat → Int32) (oc : Int32) (op : Int32) (ok : Int32) {Q : (Nat → Int32) → (Nat → Int32) → (Nat → Int32) → Int32 → Int32 → Int32 → Prop} (hw : wn_X1_copyFrom db de df dc dp dk ob oe of oc op ok Q) (sz : Nat) :
    Met l yX1_copyFrom wsX1_copyFrom ({ frames := 1, cells := 0, slots := 0, locals := 23 } : Room) (va_Pc [.ref qd, .ref qo] (mPre G (w0_X1_copyFrom G qd qdb qde qdf qo qob qoe qof db de df dc dp dk ob oe of oc op ok) sz)) (va_Qv (fun (u : (Nat → Int32) × (Nat → Int32) × (Nat → Int32) × Int32 × Int32 × Int32) => Q u.1 u.2.1 u.2.2.1 u.2.2.2.1 u.2.2.2.2.1 u.2.2.2.2.2) (mBk G (va_A (w0_X1_copyFrom G qd qdb qde qdf qo qob qoe qof db de df dc dp dk ob oe of oc op ok) sz) (fun (u : (Nat → Int32) × (Nat → Int32) × (Nat → Int32) × Int32 × Int32 × Int32) => (w0_X1_copyFrom G qd qdb qde qdf qo qob qoe qof u.1 u.2.1 u.2.2.1 u.2.2.2.1 u.2.2.2.2.1 u.2.2.2.2.2 ob oe of oc op ok))) (va_A (w0_X1_copyFrom G qd qdb qde qdf qo qob qoe qof db de df dc dp dk ob oe of oc op ok) sz)) 0 0 (va_A (w0_X1_copyFrom G qd qdb qde qdf qo qob qoe qof db de df dc dp dk ob oe of oc op ok) sz) := by
  refine ms_v (cc := cX1_copyFrom) (maxL := 3) (ret := none) (post := (fun (u : (Nat → Int32) × (Nat → Int32) × (Nat → Int32) × Int32 × Int32 × Int32) => Q u.1 u.2.1 u.2.2.1 u.2.2.2.1 u.2.2.2.2.1 u.2.2.2.2.2)) (w1 := (fun (u : (Nat → Int32) × (Nat → Int32) × (Nat → Int32) × Int32 × Int32 × Int32) => (w0_X1_copyFrom G qd qdb qde qdf qo qob qoe qof u.1 u.2.1 u.2.2.1 u.2.2.2.1 u.2.2.2.2.1 u.2.2.2.2.2 ob oe of oc op ok))) (by decide) rfl (Nat.le_of_ble_eq_true rfl) ?_ sz
  intro p e s m below meth c A ls H locs hx hb hr hml hown hts hlocks hK hG hP hD hS hA hl
  have hown : s.vm.findClass RX1 = some m.cls := hown
  have hl : lv_has ls 3 [(0, .ref qd), (1, .ref qo)] := hl
  have J2 : ∀ (n : Nat) (db : Nat → Int32) (de : Nat → Int32) (df : Nat → Int32) (dc : Int32) (dp : Int32) (dk : Int32) (x2 : Int32) (H : Heap) (locs : List Loc) (ls : Array Slot), va_P (gD G) vwCl (w0_X1_copyFrom G qd qdb qde qdf qo qob qoe qof db de df dc dp dk ob oe of oc op ok) H → va_D A (w0_X1_copyFrom G qd qdb qde qdf qo qob qoe qof db de df dc dp dk ob oe of oc op ok) → va_S A s.heap H locs → lv_has ls 3 [(0, .ref qd), (1, .ref qo), (2, .int x2)] → wl_n_X1_copyFrom_2 ob oe of oc op ok Q n db de df dc dp dk x2 → W p l e ({ frames := 1, cells := 0, slots := 0, locals := 23 } : Room) s m ([.ref qd, .ref qo] : List Value).toArray below meth c H locs 0 0 (MQ below (va_Qv (fun (u : (Nat → Int32) × (Nat → Int32) × (Nat → Int32) × Int32 × Int32 × Int32) => Q u.1 u.2.1 u.2.2.1 u.2.2.2.1 u.2.2.2.2.1 u.2.2.2.2.2) (mBk G A (fun (u : (Nat → Int32) × (Nat → Int32) × (Nat → Int32) × Int32 × Int32 × Int32) => (w0_X1_copyFrom G qd qdb qde qdf qo qob qoe qof u.1 u.2.1 u.2.2.1 u.2.2.2.1 u.2.2.2.2.1 u.2.2.2.2.2 ob oe of oc op ok))) A) ([.ref qd, .ref qo] : List Value).toArray s 0 0 A) (F0 m 2 ls []) := by
    intro n
    induction n with
    | zero => intro db de df dc dp dk x2 H locs ls hP hD hS hl hw; exact False.elim hw
    | succ n ih =>
      intro db de df dc dp dk x2 H locs ls hP hD hS hl hw
      rw [wl_n_X1_copyFrom_2] at hw
      refine lv_iload_n hx hb dX1_copyFrom_2 rfl (lv_at hl 2 rfl) ?_
      refine lv_aload_n hx hb dX1_copyFrom_3 rfl (lv_at hl 1 rfl) ?_
      refine va_get (D := gD G) (ci := 1) (v := .int oc) (C := RX1) (T := TX1) (N := 6) hx hb hts k_X1_copyFrom_inX1 hown hK hP 4 rfl rfl 3 (by decide) (hts _ k_X1_copyFrom_f21) (fun _ h9 => h9) rfl dX1_copyFrom_4 ?_
      refine lv_icmp_ge (tgt := 23) hx hb dX1_copyFrom_7 (by decide) (fun cd1 => ?_) (fun cd1 => ?_)
      · have hw := hw.1 cd1
        refine lv_aload_n hx hb dX1_copyFrom_23 rfl (lv_at hl 0 rfl) ?_
        refine lv_aload_n hx hb dX1_copyFrom_24 rfl (lv_at hl 1 rfl) ?_
        refine va_get (D := gD G) (ci := 1) (v := .int oc) (C := RX1) (T := TX1) (N := 6) hx hb hts k_X1_copyFrom_inX1 hown hK hP 4 rfl rfl 3 (by decide) (hts _ k_X1_copyFrom_f21) (fun _ h9 => h9) rfl dX1_copyFrom_25 ?_
        refine va_put (D := gD G) (ci := 1) (v := .int oc) (ty := .int) (C := RX1) (T := TX1) (N := 6) hx hb hts k_X1_copyFrom_inX1 tyX1 tyX1_ok nmX1 hown hK hP hD hS 0 rfl rfl 3 (by decide) (hts _ k_X1_copyFrom_f21) (fun _ h9 => h9) rfl (by decide +kernel) rfl rfl (Nat.le_of_ble_eq_true rfl) dX1_copyFrom_28 (fun H locs hP hD hS => ?_)
        have hP : va_P (gD G) vwCl (w0_X1_copyFrom G qd qdb qde qdf qo qob qoe qof db de df oc dp dk ob oe of oc op ok) H := hP
        have hD : va_D A (w0_X1_copyFrom G qd qdb qde qdf qo qob qoe qof db de df oc dp dk ob oe of oc op ok) := hD
        refine lv_aload_n hx hb dX1_copyFrom_31 rfl (lv_at hl 0 rfl) ?_
        refine lv_aload_n hx hb dX1_copyFrom_32 rfl (lv_at hl 1 rfl) ?_
        refine va_get (D := gD G) (ci := 1) (v := .int op) (C := RX1) (T := TX1) (N := 6) hx hb hts k_X1_copyFrom_inX1 hown hK hP 4 rfl rfl 4 (by decide) (hts _ k_X1_copyFrom_f25) (fun _ h9 => h9) rfl dX1_copyFrom_33 ?_
        refine va_put (D := gD G) (ci := 1) (v := .int op) (ty := .int) (C := RX1) (T := TX1) (N := 6) hx hb hts k_X1_copyFrom_inX1 tyX1 tyX1_ok nmX1 hown hK hP hD hS 0 rfl rfl 4 (by decide) (hts _ k_X1_copyFrom_f25) (fun _ h9 => h9) rfl (by decide +kernel) rfl rfl (Nat.le_of_ble_eq_true rfl) dX1_copyFrom_36 (fun H locs hP hD hS => ?_)
        have hP : va_P (gD G) vwCl (w0_X1_copyFrom G qd qdb qde qdf qo qob qoe qof db de df oc op dk ob oe of oc op ok) H := hP
        have hD : va_D A (w0_X1_copyFrom G qd qdb qde qdf qo qob qoe qof db de df oc op dk ob oe of oc op ok) := hD
        refine lv_aload_n hx hb dX1_copyFrom_39 rfl (lv_at hl 0 rfl) ?_
        refine lv_aload_n hx hb dX1_copyFrom_40 rfl (lv_at hl 1 rfl) ?_
        refine va_get (D := gD G) (ci := 1) (v := .int ok) (C := RX1) (T := TX1) (N := 6) hx hb hts k_X1_copyFrom_inX1 hown hK hP 4 rfl rfl 5 (by decide) (hts _ k_X1_copyFrom_f28) (fun _ h9 => h9) rfl dX1_copyFrom_41 ?_
        refine va_put (D := gD G) (ci := 1) (v := .int ok) (ty := .int) (C := RX1) (T := TX1) (N := 6) hx hb hts k_X1_copyFrom_inX1 tyX1 tyX1_ok nmX1 hown hK hP hD hS 0 rfl rfl 5 (by decide) (hts _ k_X1_copyFrom_f28) (fun _ h9 => h9) rfl (by decide +kernel) rfl rfl (Nat.le_of_ble_eq_true rfl) dX1_copyFrom_44 (fun H locs hP hD hS => ?_)
        have hP : va_P (gD G) vwCl (w0_X1_copyFrom G qd qdb qde qdf qo qob qoe qof db de df oc op ok ob oe of oc op ok) H := hP
        have hD : va_D A (w0_X1_copyFrom G qd qdb qde qdf qo qob qoe qof db de df oc op ok ob oe of oc op ok) := hD
        exact fin_v (db, de, df, oc, op, ok) hx hb hr hlocks hK hS hP hD hw dX1_copyFrom_47
      · have hw := hw.2 cd1
        refine lv_aload_n hx hb dX1_copyFrom_10 rfl (lv_at hl 0 rfl) ?_
        refine lv_aload_n hx hb dX1_copyFrom_11 rfl (lv_at hl 1 rfl) ?_
        refine lv_iload_n hx hb dX1_copyFrom_12 rfl (lv_at hl 2 rfl) ?_
        refine lv_iload_n hx hb dX1_copyFrom_13 rfl (lv_at hl 2 rfl) ?_
        refine kc_v (kr_V [] ⟨hx, hb, hml, hown, hts⟩ (cn_X1_copyRehearsal_two l G qd qdb qde qdf qo qob qoe qof db de df dc dp dk ob oe of oc op ok x2 x2 hw H.size) (cwV 3 hts gX1_copyFrom_X1_copyRehearsal rfl rfl rfl (by decide +kernel) ⟨Nat.le_of_ble_eq_true rfl, Nat.le_of_ble_eq_true rfl⟩) hK hG hP hD hS hA [0, 1, 2, 3, 4, 5, 6, 7] rfl rfl 1 0 rfl rfl rfl hl.1 rfl (Nat.le_of_ble_eq_true rfl) dX1_copyFrom_14 ⟨Nat.le_of_ble_eq_true rfl, Nat.le_of_ble_eq_true rfl⟩) hP hD hS hA [0, 1, 2, 3, 4, 5, 6, 7] [] rfl rfl rfl (by decide) (fun u H locs hw hP hD hS => ?_)
        obtain ⟨db_2, de_3, df_4⟩ := u
        try dsimp only at hw
        have hP := hP.sub (ws' := (w0_X1_copyFrom G qd qdb qde qdf qo qob qoe qof db_2 de_3 df_4 dc dp dk ob oe of oc op ok)) [0, 1, 2, 3, 4, 5, 6, 7] rfl
        have hD := hD.sub (ws' := (w0_X1_copyFrom G qd qdb qde qdf qo qob qoe qof db_2 de_3 df_4 dc dp dk ob oe of oc op ok)) [0, 1, 2, 3, 4, 5, 6, 7] rfl rfl
        refine lv_iinc (v := (x2 + 1)) (lv' := [(2, .int (x2 + 1)), (0, .ref qd), (1, .ref qo)]) hx hb dX1_copyFrom_17 hl (k := 2) rfl rfl (by decide) rfl (fun ls hl => ?_)
        refine lv_goto (tgt := 2) hx hb dX1_copyFrom_20 (by decide) ?_
        exact ih db_2 de_3 df_4 dc dp dk (x2 + 1) _ _ _ hP hD hS (lv_sub hl [1, 2, 0] rfl) hw
  unfold wn_X1_copyFrom at hw
  refine lv_iconst (v := 0) hx hb dX1_copyFrom_0 (by decide) ?_
  refine lv_istore_n (lv' := [(2, .int (0 : Int32)), (0, .ref qd), (1, .ref qo)]) hx hb dX1_copyFrom_1 rfl hl (by decide) rfl (fun ls hl => ?_)
  obtain ⟨n2, hw⟩ := hw
  exact J2 n2 db de df dc dp dk (0 : Int32) _ _ _ hP hD hS (lv_sub hl [1, 2, 0] rfl) hw

abbrev w0_X1_copyRehearsal_self (G : mG) (qd : Nat) (qdb : Nat) (qde : Nat) (qdf : Nat) (db : Nat → Int32) (de : Nat → Int32) (df : Nat → Int32) (dc : Int32) (dp : Int32) (dk : Int32) : va_W := [(qd, .inr (1, [.ref qdb, .ref qde, .ref qdf, .int dc, .int dp, .int dk])), (qdb, .inl (gI G, (14, .inl db))), (qde, .inl (gI G, (14, .inl de))), (qdf, .inl (gI G, (14, .inl df)))]
set_option maxHeartbeats 8000000 in
set_option maxRecDepth 100000 in
theorem cn_X1_copyRehearsal_self (l : Launch) (G : mG) (qd : Nat) (qdb : Nat) (qde : Nat) (qdf : Nat) (db : Nat → Int32) (de : Nat → Int32) (df : Nat → Int32) (dc : Int32) (dp : Int32) (dk : Int32) (a2 : Int32) (a3 : Int32) {Q : (Nat → Int32) → (Nat → Int32) → (Nat → Int32) → Prop} (hw : wn_X1_copyRehearsal_self db de df a2 a3 Q) (sz : Nat) :
    Met l yX1_copyRehearsal wsX1_copyRehearsal ({ frames := 0, cells := 0, slots := 0, locals := 0 } : Room) (va_Pc [.ref qd, .ref qd, .int a2, .int a3] (mPre G (w0_X1_copyRehearsal_self G qd qdb qde qdf db de df dc dp dk) sz)) (va_Qv (fun (u : (Nat → Int32) × (Nat → Int32) × (Nat → Int32)) => Q u.1 u.2.1 u.2.2) (mBk G (va_A (w0_X1_copyRehearsal_self G qd qdb qde qdf db de df dc dp dk) sz) (fun (u : (Nat → Int32) × (Nat → Int32) × (Nat → Int32)) => (w0_X1_copyRehearsal_self G qd qdb qde qdf u.1 u.2.1 u.2.2 dc dp dk))) (va_A (w0_X1_copyRehearsal_self G qd qdb qde qdf db de df dc dp dk) sz)) 0 0 (va_A (w0_X1_copyRehearsal_self G qd qdb qde qdf db de df dc dp dk) sz) := by
  refine ms_v (cc := cX1_copyRehearsal) (maxL := 4) (ret := none) (post := (fun (u : (Nat → Int32) × (Nat → Int32) × (Nat → Int32)) => Q u.1 u.2.1 u.2.2)) (w1 := (fun (u : (Nat → Int32) × (Nat → Int32) × (Nat → Int32)) => (w0_X1_copyRehearsal_self G qd qdb qde qdf u.1 u.2.1 u.2.2 dc dp dk))) (by decide) rfl (Nat.le_of_ble_eq_true rfl) ?_ sz
  intro p e s m below meth c A ls H locs hx hb hr hml hown hts hlocks hK hG hP hD hS hA hl
  have hown : s.vm.findClass RX1 = some m.cls := hown
  have hl : lv_has ls 4 [(0, .ref qd), (1, .ref qd), (2, .int a2), (3, .int a3)] := hl
  unfold wn_X1_copyRehearsal_self at hw
  refine lv_aload_n hx hb dX1_copyRehearsal_0 rfl (lv_at hl 0 rfl) ?_
  refine va_get (D := gD G) (ci := 1) (v := .ref qdb) (C := RX1) (T := TX1) (N := 6) hx hb hts k_X1_copyRehearsal_inX1 hown hK hP 0 rfl rfl 0 (by decide) (hts _ k_X1_copyRehearsal_f9) (fun _ h9 => h9) rfl dX1_copyRehearsal_1 ?_
  refine lv_iload_n hx hb dX1_copyRehearsal_4 rfl (lv_at hl 3 rfl) ?_
  refine lv_aload_n hx hb dX1_copyRehearsal_5 rfl (lv_at hl 1 rfl) ?_
  refine va_get (D := gD G) (ci := 1) (v := .ref qdb) (C := RX1) (T := TX1) (N := 6) hx hb hts k_X1_copyRehearsal_inX1 hown hK hP 0 rfl rfl 0 (by decide) (hts _ k_X1_copyRehearsal_f9) (fun _ h9 => h9) rfl dX1_copyRehearsal_6 ?_
  refine lv_iload_n hx hb dX1_copyRehearsal_9 rfl (lv_at hl 2 rfl) ?_
  obtain ⟨h1, hw⟩ := hw
  refine va_iald hx hb hK hP 1 0 rfl rfl h1 dX1_copyRehearsal_10 ?_
  obtain ⟨h2, hw⟩ := hw
  refine va_iast hx hb hK hP hD hS 1 0 rfl rfl h2 dX1_copyRehearsal_11 (fun H locs hP hD hS => ?_)
  have hP : va_P (gD G) vwCl (w0_X1_copyRehearsal_self G qd qdb qde qdf (upd db a3.toNatClampNeg (db a2.toNatClampNeg)) de df dc dp dk) H := hP
  have hD : va_D A (w0_X1_copyRehearsal_self G qd qdb qde qdf (upd db a3.toNatClampNeg (db a2.toNatClampNeg)) de df dc dp dk) := hD
  refine lv_aload_n hx hb dX1_copyRehearsal_12 rfl (lv_at hl 0 rfl) ?_
  refine va_get (D := gD G) (ci := 1) (v := .ref qde) (C := RX1) (T := TX1) (N := 6) hx hb hts k_X1_copyRehearsal_inX1 hown hK hP 0 rfl rfl 1 (by decide) (hts _ k_X1_copyRehearsal_f15) (fun _ h9 => h9) rfl dX1_copyRehearsal_13 ?_
  refine lv_iload_n hx hb dX1_copyRehearsal_16 rfl (lv_at hl 3 rfl) ?_
  refine lv_aload_n hx hb dX1_copyRehearsal_17 rfl (lv_at hl 1 rfl) ?_
  refine va_get (D := gD G) (ci := 1) (v := .ref qde) (C := RX1) (T := TX1) (N := 6) hx hb hts k_X1_copyRehearsal_inX1 hown hK hP 0 rfl rfl 1 (by decide) (hts _ k_X1_copyRehearsal_f15) (fun _ h9 => h9) rfl dX1_copyRehearsal_18 ?_
  refine lv_iload_n hx hb dX1_copyRehearsal_21 rfl (lv_at hl 2 rfl) ?_
  obtain ⟨h3, hw⟩ := hw
  refine va_iald hx hb hK hP 2 0 rfl rfl h3 dX1_copyRehearsal_22 ?_
  obtain ⟨h4, hw⟩ := hw
  refine va_iast hx hb hK hP hD hS 2 0 rfl rfl h4 dX1_copyRehearsal_23 (fun H locs hP hD hS => ?_)
  have hP : va_P (gD G) vwCl (w0_X1_copyRehearsal_self G qd qdb qde qdf (upd db a3.toNatClampNeg (db a2.toNatClampNeg)) (upd de a3.toNatClampNeg (de a2.toNatClampNeg)) df dc dp dk) H := hP
  have hD : va_D A (w0_X1_copyRehearsal_self G qd qdb qde qdf (upd db a3.toNatClampNeg (db a2.toNatClampNeg)) (upd de a3.toNatClampNeg (de a2.toNatClampNeg)) df dc dp dk) := hD
  refine lv_aload_n hx hb dX1_copyRehearsal_24 rfl (lv_at hl 0 rfl) ?_
  refine va_get (D := gD G) (ci := 1) (v := .ref qdf) (C := RX1) (T := TX1) (N := 6) hx hb hts k_X1_copyRehearsal_inX1 hown hK hP 0 rfl rfl 2 (by decide) (hts _ k_X1_copyRehearsal_f18) (fun _ h9 => h9) rfl dX1_copyRehearsal_25 ?_
  refine lv_iload_n hx hb dX1_copyRehearsal_28 rfl (lv_at hl 3 rfl) ?_
  refine lv_aload_n hx hb dX1_copyRehearsal_29 rfl (lv_at hl 1 rfl) ?_
  refine va_get (D := gD G) (ci := 1) (v := .ref qdf) (C := RX1) (T := TX1) (N := 6) hx hb hts k_X1_copyRehearsal_inX1 hown hK hP 0 rfl rfl 2 (by decide) (hts _ k_X1_copyRehearsal_f18) (fun _ h9 => h9) rfl dX1_copyRehearsal_30 ?_
  refine lv_iload_n hx hb dX1_copyRehearsal_33 rfl (lv_at hl 2 rfl) ?_
  obtain ⟨h5, hw⟩ := hw
  refine va_iald hx hb hK hP 3 0 rfl rfl h5 dX1_copyRehearsal_34 ?_
  obtain ⟨h6, hw⟩ := hw
  refine va_iast hx hb hK hP hD hS 3 0 rfl rfl h6 dX1_copyRehearsal_35 (fun H locs hP hD hS => ?_)
  have hP : va_P (gD G) vwCl (w0_X1_copyRehearsal_self G qd qdb qde qdf (upd db a3.toNatClampNeg (db a2.toNatClampNeg)) (upd de a3.toNatClampNeg (de a2.toNatClampNeg)) (upd df a3.toNatClampNeg (df a2.toNatClampNeg)) dc dp dk) H := hP
  have hD : va_D A (w0_X1_copyRehearsal_self G qd qdb qde qdf (upd db a3.toNatClampNeg (db a2.toNatClampNeg)) (upd de a3.toNatClampNeg (de a2.toNatClampNeg)) (upd df a3.toNatClampNeg (df a2.toNatClampNeg)) dc dp dk) := hD
  exact fin_v ((upd db a3.toNatClampNeg (db a2.toNatClampNeg)), (upd de a3.toNatClampNeg (de a2.toNatClampNeg)), (upd df a3.toNatClampNeg (df a2.toNatClampNeg))) hx hb hr hlocks hK hS hP hD hw dX1_copyRehearsal_36

abbrev w0_X1_takeOn (G : mG) (qd : Nat) (qdb : Nat) (qde : Nat) (qdf : Nat) (db : Nat → Int32) (de : Nat → Int32) (df : Nat → Int32) (dc : Int32) (dp : Int32) (dk : Int32) : va_W := [(qd, .inr (1, [.ref qdb, .ref qde, .ref qdf, .int dc, .int dp, .int dk])), (qdb, .inl (gI G, (14, .inl db))), (qde, .inl (gI G, (14, .inl de))), (qdf, .inl (gI G, (14, .inl df)))]
set_option maxRecDepth 100000 in
theorem k_X1_takeOn_inX1 : ∀ w ∈ u_ws RX1 TX1 6, w ∈ wsX1_takeOn := by decide +kernel
set_option maxRecDepth 100000 in
theorem k_X1_takeOn_f9 : Cond.fieldLink RX1 9 "RehearsalRoom$Day" "begins" "[I" ∈ wsX1_takeOn := by decide +kernel
set_option maxRecDepth 100000 in
theorem k_X1_takeOn_f21 : Cond.fieldLink RX1 21 "RehearsalRoom$Day" "count" "I" ∈ wsX1_takeOn := by decide +kernel
set_option maxRecDepth 100000 in
theorem k_X1_takeOn_f15 : Cond.fieldLink RX1 15 "RehearsalRoom$Day" "ends" "[I" ∈ wsX1_takeOn := by decide +kernel
set_option maxRecDepth 100000 in
theorem k_X1_takeOn_f18 : Cond.fieldLink RX1 18 "RehearsalRoom$Day" "fames" "[I" ∈ wsX1_takeOn := by decide +kernel
set_option maxHeartbeats 8000000 in
set_option maxRecDepth 100000 in
theorem cn_X1_takeOn (l : Launch) (G : mG) (qd : Nat) (qdb : Nat) (qde : Nat) (qdf : Nat) (db : Nat → Int32) (de : Nat → Int32) (df : Nat → Int32) (dc : Int32) (dp : Int32) (dk : Int32) (a1 : Int32) (a2 : Int32) (a3 : Int32) {Q : (Nat → Int32) → (Nat → Int32) → (Nat → Int32) → Int32 → Prop} (hw : wn_X1_takeOn db de df dc a1 a2 a3 Q) (sz : Nat) :
    Met l yX1_takeOn wsX1_takeOn ({ frames := 0, cells := 0, slots := 0, locals := 0 } : Room) (va_Pc [.ref qd, .int a1, .int a2, .int a3] (mPre G (w0_X1_takeOn G qd qdb qde qdf db de df dc dp dk) sz)) (va_Qv (fun (u : (Nat → Int32) × (Nat → Int32) × (Nat → Int32) × Int32) => Q u.1 u.2.1 u.2.2.1 u.2.2.2) (mBk G (va_A (w0_X1_takeOn G qd qdb qde qdf db de df dc dp dk) sz) (fun (u : (Nat → Int32) × (Nat → Int32) × (Nat → Int32) × Int32) => (w0_X1_takeOn G qd qdb qde qdf u.1 u.2.1 u.2.2.1 u.2.2.2 dp dk))) (va_A (w0_X1_takeOn G qd qdb qde qdf db de df dc dp dk) sz)) 0 0 (va_A (w0_X1_takeOn G qd qdb qde qdf db de df dc dp dk) sz) := by
  refine ms_v (cc := cX1_takeOn) (maxL := 4) (ret := none) (post := (fun (u : (Nat → Int32) × (Nat → Int32) × (Nat → Int32) × Int32) => Q u.1 u.2.1 u.2.2.1 u.2.2.2)) (w1 := (fun (u : (Nat → Int32) × (Nat → Int32) × (Nat → Int32) × Int32) => (w0_X1_takeOn G qd qdb qde qdf u.1 u.2.1 u.2.2.1 u.2.2.2 dp dk))) (by decide) rfl (Nat.le_of_ble_eq_true rfl) ?_ sz
  intro p e s m below meth c A ls H locs hx hb hr hml hown hts hlocks hK hG hP hD hS hA hl
  have hown : s.vm.findClass RX1 = some m.cls := hown
  have hl : lv_has ls 4 [(0, .ref qd), (1, .int a1), (2, .int a2), (3, .int a3)] := hl
  unfold wn_X1_takeOn at hw
  refine lv_aload_n hx hb dX1_takeOn_0 rfl (lv_at hl 0 rfl) ?_
  refine va_get (D := gD G) (ci := 1) (v := .ref qdb) (C := RX1) (T := TX1) (N := 6) hx hb hts k_X1_takeOn_inX1 hown hK hP 0 rfl rfl 0 (by decide) (hts _ k_X1_takeOn_f9) (fun _ h9 => h9) rfl dX1_takeOn_1 ?_
  refine lv_aload_n hx hb dX1_takeOn_4 rfl (lv_at hl 0 rfl) ?_
  refine va_get (D := gD G) (ci := 1) (v := .int dc) (C := RX1) (T := TX1) (N := 6) hx hb hts k_X1_takeOn_inX1 hown hK hP 0 rfl rfl 3 (by decide) (hts _ k_X1_takeOn_f21) (fun _ h9 => h9) rfl dX1_takeOn_5 ?_
  refine lv_iload_n hx hb dX1_takeOn_8 rfl (lv_at hl 1 rfl) ?_
  obtain ⟨h1, hw⟩ := hw
  refine va_iast hx hb hK hP hD hS 1 0 rfl rfl h1 dX1_takeOn_9 (fun H locs hP hD hS => ?_)
  have hP : va_P (gD G) vwCl (w0_X1_takeOn G qd qdb qde qdf (upd db dc.toNatClampNeg a1) de df dc dp dk) H := hP
  have hD : va_D A (w0_X1_takeOn G qd qdb qde qdf (upd db dc.toNatClampNeg a1) de df dc dp dk) := hD
  refine lv_aload_n hx hb dX1_takeOn_10 rfl (lv_at hl 0 rfl) ?_
  refine va_get (D := gD G) (ci := 1) (v := .ref qde) (C := RX1) (T := TX1) (N := 6) hx hb hts k_X1_takeOn_inX1 hown hK hP 0 rfl rfl 1 (by decide) (hts _ k_X1_takeOn_f15) (fun _ h9 => h9) rfl dX1_takeOn_11 ?_
  refine lv_aload_n hx hb dX1_takeOn_14 rfl (lv_at hl 0 rfl) ?_
  refine va_get (D := gD G) (ci := 1) (v := .int dc) (C := RX1) (T := TX1) (N := 6) hx hb hts k_X1_takeOn_inX1 hown hK hP 0 rfl rfl 3 (by decide) (hts _ k_X1_takeOn_f21) (fun _ h9 => h9) rfl dX1_takeOn_15 ?_
  refine lv_iload_n hx hb dX1_takeOn_18 rfl (lv_at hl 2 rfl) ?_
  obtain ⟨h2, hw⟩ := hw
  refine va_iast hx hb hK hP hD hS 2 0 rfl rfl h2 dX1_takeOn_19 (fun H locs hP hD hS => ?_)
  have hP : va_P (gD G) vwCl (w0_X1_takeOn G qd qdb qde qdf (upd db dc.toNatClampNeg a1) (upd de dc.toNatClampNeg a2) df dc dp dk) H := hP
  have hD : va_D A (w0_X1_takeOn G qd qdb qde qdf (upd db dc.toNatClampNeg a1) (upd de dc.toNatClampNeg a2) df dc dp dk) := hD
  refine lv_aload_n hx hb dX1_takeOn_20 rfl (lv_at hl 0 rfl) ?_
  refine va_get (D := gD G) (ci := 1) (v := .ref qdf) (C := RX1) (T := TX1) (N := 6) hx hb hts k_X1_takeOn_inX1 hown hK hP 0 rfl rfl 2 (by decide) (hts _ k_X1_takeOn_f18) (fun _ h9 => h9) rfl dX1_takeOn_21 ?_
  refine lv_aload_n hx hb dX1_takeOn_24 rfl (lv_at hl 0 rfl) ?_
  refine va_get (D := gD G) (ci := 1) (v := .int dc) (C := RX1) (T := TX1) (N := 6) hx hb hts k_X1_takeOn_inX1 hown hK hP 0 rfl rfl 3 (by decide) (hts _ k_X1_takeOn_f21) (fun _ h9 => h9) rfl dX1_takeOn_25 ?_
  refine lv_iload_n hx hb dX1_takeOn_28 rfl (lv_at hl 3 rfl) ?_
  obtain ⟨h3, hw⟩ := hw
  refine va_iast hx hb hK hP hD hS 3 0 rfl rfl h3 dX1_takeOn_29 (fun H locs hP hD hS => ?_)
  have hP : va_P (gD G) vwCl (w0_X1_takeOn G qd qdb qde qdf (upd db dc.toNatClampNeg a1) (upd de dc.toNatClampNeg a2) (upd df dc.toNatClampNeg a3) dc dp dk) H := hP
  have hD : va_D A (w0_X1_takeOn G qd qdb qde qdf (upd db dc.toNatClampNeg a1) (upd de dc.toNatClampNeg a2) (upd df dc.toNatClampNeg a3) dc dp dk) := hD
  refine lv_aload_n hx hb dX1_takeOn_30 rfl (lv_at hl 0 rfl) ?_
  refine lv_dup hx hb dX1_takeOn_31 rfl ?_
  refine va_get (D := gD G) (ci := 1) (v := .int dc) (C := RX1) (T := TX1) (N := 6) hx hb hts k_X1_takeOn_inX1 hown hK hP 0 rfl rfl 3 (by decide) (hts _ k_X1_takeOn_f21) (fun _ h9 => h9) rfl dX1_takeOn_32 ?_
  refine lv_iconst (v := 1) hx hb dX1_takeOn_35 (by decide) ?_
  refine lv_iadd hx hb dX1_takeOn_36 ?_
  refine va_put (D := gD G) (ci := 1) (v := .int (dc + (1 : Int32))) (ty := .int) (C := RX1) (T := TX1) (N := 6) hx hb hts k_X1_takeOn_inX1 tyX1 tyX1_ok nmX1 hown hK hP hD hS 0 rfl rfl 3 (by decide) (hts _ k_X1_takeOn_f21) (fun _ h9 => h9) rfl (by decide +kernel) rfl rfl (Nat.le_of_ble_eq_true rfl) dX1_takeOn_37 (fun H locs hP hD hS => ?_)
  have hP : va_P (gD G) vwCl (w0_X1_takeOn G qd qdb qde qdf (upd db dc.toNatClampNeg a1) (upd de dc.toNatClampNeg a2) (upd df dc.toNatClampNeg a3) (dc + (1 : Int32)) dp dk) H := hP
  have hD : va_D A (w0_X1_takeOn G qd qdb qde qdf (upd db dc.toNatClampNeg a1) (upd de dc.toNatClampNeg a2) (upd df dc.toNatClampNeg a3) (dc + (1 : Int32)) dp dk) := hD
  exact fin_v ((upd db dc.toNatClampNeg a1), (upd de dc.toNatClampNeg a2), (upd df dc.toNatClampNeg a3), (dc + (1 : Int32))) hx hb hr hlocks hK hS hP hD hw dX1_takeOn_40

abbrev w0_X1_takeOut (G : mG) (qd : Nat) (qdb : Nat) (qde : Nat) (qdf : Nat) (db : Nat → Int32) (de : Nat → Int32) (df : Nat → Int32) (dc : Int32) (dp : Int32) (dk : Int32) : va_W := [(qd, .inr (1, [.ref qdb, .ref qde, .ref qdf, .int dc, .int dp, .int dk])), (qdb, .inl (gI G, (14, .inl db))), (qde, .inl (gI G, (14, .inl de))), (qdf, .inl (gI G, (14, .inl df)))]
set_option maxRecDepth 100000 in
theorem k_X1_takeOut_inX1 : ∀ w ∈ u_ws RX1 TX1 6, w ∈ wsX1_takeOut := by decide +kernel
set_option maxRecDepth 100000 in
theorem k_X1_takeOut_f21 : Cond.fieldLink RX1 21 "RehearsalRoom$Day" "count" "I" ∈ wsX1_takeOut := by decide +kernel
set_option maxRecDepth 100000 in
theorem k_X1_takeOut_f28 : Cond.fieldLink RX1 28 "RehearsalRoom$Day" "bookings" "I" ∈ wsX1_takeOut := by decide +kernel
set_option maxHeartbeats 8000000 in
set_option maxRecDepth 100000 in
theorem cn_X1_takeOut (l : Launch) (G : mG) (qd : Nat) (qdb : Nat) (qde : Nat) (qdf : Nat) (db : Nat → Int32) (de : Nat → Int32) (df : Nat → Int32) (dc : Int32) (dp : Int32) (dk : Int32) (a1 : Int32) {Q : (Nat → Int32) → (Nat → Int32) → (Nat → Int32) → Int32 → Int32 → Prop} (hw : wn_X1_takeOut db de df dc dk a1 Q) (sz : Nat) :
    Met l yX1_takeOut wsX1_takeOut ({ frames := 1, cells := 0, slots := 0, locals := 23 } : Room) (va_Pc [.ref qd, .int a1] (mPre G (w0_X1_takeOut G qd qdb qde qdf db de df dc dp dk) sz)) (va_Qv (fun (u : (Nat → Int32) × (Nat → Int32) × (Nat → Int32) × Int32 × Int32) => Q u.1 u.2.1 u.2.2.1 u.2.2.2.1 u.2.2.2.2) (mBk G (va_A (w0_X1_takeOut G qd qdb qde qdf db de df dc dp dk) sz) (fun (u : (Nat → Int32) × (Nat → Int32) × (Nat → Int32) × Int32 × Int32) => (w0_X1_takeOut G qd qdb qde qdf u.1 u.2.1 u.2.2.1 u.2.2.2.1 dp u.2.2.2.2))) (va_A (w0_X1_takeOut G qd qdb qde qdf db de df dc dp dk) sz)) 0 0 (va_A (w0_X1_takeOut G qd qdb qde qdf db de df dc dp dk) sz) := by
  refine ms_v (cc := cX1_takeOut) (maxL := 4) (ret := none) (post := (fun (u : (Nat → Int32) × (Nat → Int32) × (Nat → Int32) × Int32 × Int32) => Q u.1 u.2.1 u.2.2.1 u.2.2.2.1 u.2.2.2.2)) (w1 := (fun (u : (Nat → Int32) × (Nat → Int32) × (Nat → Int32) × Int32 × Int32) => (w0_X1_takeOut G qd qdb qde qdf u.1 u.2.1 u.2.2.1 u.2.2.2.1 dp u.2.2.2.2))) (by decide) rfl (Nat.le_of_ble_eq_true rfl) ?_ sz
  intro p e s m below meth c A ls H locs hx hb hr hml hown hts hlocks hK hG hP hD hS hA hl
  have hown : s.vm.findClass RX1 = some m.cls := hown
  have hl : lv_has ls 4 [(0, .ref qd), (1, .int a1)] := hl
  have J4 : ∀ (n : Nat) (db : Nat → Int32) (de : Nat → Int32) (df : Nat → Int32) (dc : Int32) (dk : Int32) (x1 : Int32) (x2 : Int32) (H : Heap) (locs : List Loc) (ls : Array Slot), va_P (gD G) vwCl (w0_X1_takeOut G qd qdb qde qdf db de df dc dp dk) H → va_D A (w0_X1_takeOut G qd qdb qde qdf db de df dc dp dk) → va_S A s.heap H locs → lv_has ls 4 [(0, .ref qd), (1, .int x1), (2, .int x2)] → wl_n_X1_takeOut_4 Q n db de df dc dk x1 x2 → W p l e ({ frames := 1, cells := 0, slots := 0, locals := 23 } : Room) s m ([.ref qd, .int a1] : List Value).toArray below meth c H locs 0 0 (MQ below (va_Qv (fun (u : (Nat → Int32) × (Nat → Int32) × (Nat → Int32) × Int32 × Int32) => Q u.1 u.2.1 u.2.2.1 u.2.2.2.1 u.2.2.2.2) (mBk G A (fun (u : (Nat → Int32) × (Nat → Int32) × (Nat → Int32) × Int32 × Int32) => (w0_X1_takeOut G qd qdb qde qdf u.1 u.2.1 u.2.2.1 u.2.2.2.1 dp u.2.2.2.2))) A) ([.ref qd, .int a1] : List Value).toArray s 0 0 A) (F0 m 4 ls []) := by
    intro n
    induction n with
    | zero => intro db de df dc dk x1 x2 H locs ls hP hD hS hl hw; exact False.elim hw
    | succ n ih =>
      intro db de df dc dk x1 x2 H locs ls hP hD hS hl hw
      rw [wl_n_X1_takeOut_4] at hw
      refine lv_iload_n hx hb dX1_takeOut_4 rfl (lv_at hl 2 rfl) ?_
      refine lv_aload_n hx hb dX1_takeOut_5 rfl (lv_at hl 0 rfl) ?_
      refine va_get (D := gD G) (ci := 1) (v := .int dc) (C := RX1) (T := TX1) (N := 6) hx hb hts k_X1_takeOut_inX1 hown hK hP 0 rfl rfl 3 (by decide) (hts _ k_X1_takeOut_f21) (fun _ h9 => h9) rfl dX1_takeOut_6 ?_
      refine lv_icmp_ge (tgt := 27) hx hb dX1_takeOut_9 (by decide) (fun cd1 => ?_) (fun cd1 => ?_)
      · have hw := hw.1 cd1
        refine lv_aload_n hx hb dX1_takeOut_27 rfl (lv_at hl 0 rfl) ?_
        refine va_get (D := gD G) (ci := 1) (v := .int dk) (C := RX1) (T := TX1) (N := 6) hx hb hts k_X1_takeOut_inX1 hown hK hP 0 rfl rfl 5 (by decide) (hts _ k_X1_takeOut_f28) (fun _ h9 => h9) rfl dX1_takeOut_28 ?_
        refine lv_iload_n hx hb dX1_takeOut_31 rfl (lv_at hl 1 rfl) ?_
        refine kcR_i (kr_SN [.int dk] ⟨hx, hb, hml, hown, hts⟩ (cn_X5_bit l G x1 hw H.size) ⟨(va_cnB 1 hts gX1_takeOut_X5_bit_n35 rfl rfl rfl (hG.1 (RX1, 35, yX5_bit) (by decide +kernel)) (hts (.initialized RX5) (by decide +kernel)) (by decide +kernel) ⟨Nat.le_of_ble_eq_true rfl, Nat.le_of_ble_eq_true rfl⟩), hts (.static yX5_bit) (by decide +kernel)⟩ hK hG hP hD hS hA [] rfl rfl rfl hl.1 rfl (Nat.le_of_ble_eq_true rfl) dX1_takeOut_32 ⟨Nat.le_of_ble_eq_true rfl, Nat.le_of_ble_eq_true rfl⟩) hP hD hS hA [] rfl (fun r2 u H locs hw hP hS => ?_)
        try dsimp only at hw
        refine lv_iconst (v := 1) hx hb dX1_takeOut_35 (by decide) ?_
        refine lv_isub hx hb dX1_takeOut_36 ?_
        refine lv_iand hx hb dX1_takeOut_37 ?_
        refine lv_istore_n (lv' := [(2, .int (dk &&& (r2 - (1 : Int32)))), (0, .ref qd), (1, .int x1)]) hx hb dX1_takeOut_38 rfl hl (by decide) rfl (fun ls hl => ?_)
        refine lv_aload_n hx hb dX1_takeOut_39 rfl (lv_at hl 1 rfl) ?_
        refine va_get (D := gD G) (ci := 1) (v := .int dk) (C := RX1) (T := TX1) (N := 6) hx hb hts k_X1_takeOut_inX1 hown hK hP 0 rfl rfl 5 (by decide) (hts _ k_X1_takeOut_f28) (fun _ h9 => h9) rfl dX1_takeOut_40 ?_
        refine lv_iload_n hx hb dX1_takeOut_43 rfl (lv_at hl 2 rfl) ?_
        refine lv_iconst (v := 1) hx hb dX1_takeOut_44 (by decide) ?_
        refine lv_iadd hx hb dX1_takeOut_45 ?_
        refine lv_ishr hx hb dX1_takeOut_46 ?_
        refine lv_iload_n hx hb dX1_takeOut_47 rfl (lv_at hl 2 rfl) ?_
        refine lv_ishl hx hb dX1_takeOut_48 ?_
        refine lv_istore_n (lv' := [(3, .int ((dk >>> ((x1 + (1 : Int32)) &&& 31)) <<< (x1 &&& 31))), (2, .int (dk &&& (r2 - (1 : Int32)))), (0, .ref qd), (1, .int x1)]) hx hb dX1_takeOut_49 rfl hl (by decide) rfl (fun ls hl => ?_)
        refine lv_aload_n hx hb dX1_takeOut_50 rfl (lv_at hl 2 rfl) ?_
        refine lv_iload_n hx hb dX1_takeOut_51 rfl (lv_at hl 1 rfl) ?_
        refine lv_iload_n hx hb dX1_takeOut_52 rfl (lv_at hl 0 rfl) ?_
        refine lv_ior hx hb dX1_takeOut_53 ?_
        refine va_put (D := gD G) (ci := 1) (v := .int ((dk &&& (r2 - (1 : Int32))) ||| ((dk >>> ((x1 + (1 : Int32)) &&& 31)) <<< (x1 &&& 31)))) (ty := .int) (C := RX1) (T := TX1) (N := 6) hx hb hts k_X1_takeOut_inX1 tyX1 tyX1_ok nmX1 hown hK hP hD hS 0 rfl rfl 5 (by decide) (hts _ k_X1_takeOut_f28) (fun _ h9 => h9) rfl (by decide +kernel) rfl rfl (Nat.le_of_ble_eq_true rfl) dX1_takeOut_54 (fun H locs hP hD hS => ?_)
        have hP : va_P (gD G) vwCl (w0_X1_takeOut G qd qdb qde qdf db de df dc dp ((dk &&& (r2 - (1 : Int32))) ||| ((dk >>> ((x1 + (1 : Int32)) &&& 31)) <<< (x1 &&& 31)))) H := hP
        have hD : va_D A (w0_X1_takeOut G qd qdb qde qdf db de df dc dp ((dk &&& (r2 - (1 : Int32))) ||| ((dk >>> ((x1 + (1 : Int32)) &&& 31)) <<< (x1 &&& 31)))) := hD
        refine lv_aload_n hx hb dX1_takeOut_57 rfl (lv_at hl 2 rfl) ?_
        refine lv_dup hx hb dX1_takeOut_58 rfl ?_
        refine va_get (D := gD G) (ci := 1) (v := .int dc) (C := RX1) (T := TX1) (N := 6) hx hb hts k_X1_takeOut_inX1 hown hK hP 0 rfl rfl 3 (by decide) (hts _ k_X1_takeOut_f21) (fun _ h9 => h9) rfl dX1_takeOut_59 ?_
        refine lv_iconst (v := 1) hx hb dX1_takeOut_62 (by decide) ?_
        refine lv_isub hx hb dX1_takeOut_63 ?_
        refine va_put (D := gD G) (ci := 1) (v := .int (dc - (1 : Int32))) (ty := .int) (C := RX1) (T := TX1) (N := 6) hx hb hts k_X1_takeOut_inX1 tyX1 tyX1_ok nmX1 hown hK hP hD hS 0 rfl rfl 3 (by decide) (hts _ k_X1_takeOut_f21) (fun _ h9 => h9) rfl (by decide +kernel) rfl rfl (Nat.le_of_ble_eq_true rfl) dX1_takeOut_64 (fun H locs hP hD hS => ?_)
        have hP : va_P (gD G) vwCl (w0_X1_takeOut G qd qdb qde qdf db de df (dc - (1 : Int32)) dp ((dk &&& (r2 - (1 : Int32))) ||| ((dk >>> ((x1 + (1 : Int32)) &&& 31)) <<< (x1 &&& 31)))) H := hP
        have hD : va_D A (w0_X1_takeOut G qd qdb qde qdf db de df (dc - (1 : Int32)) dp ((dk &&& (r2 - (1 : Int32))) ||| ((dk >>> ((x1 + (1 : Int32)) &&& 31)) <<< (x1 &&& 31)))) := hD
        exact fin_v (db, de, df, (dc - (1 : Int32)), ((dk &&& (r2 - (1 : Int32))) ||| ((dk >>> ((x1 + (1 : Int32)) &&& 31)) <<< (x1 &&& 31)))) hx hb hr hlocks hK hS hP hD hw dX1_takeOut_67
      · have hw := hw.2 cd1
        refine lv_aload_n hx hb dX1_takeOut_12 rfl (lv_at hl 0 rfl) ?_
        refine lv_aload_n hx hb dX1_takeOut_13 rfl (lv_at hl 0 rfl) ?_
        refine lv_iload_n hx hb dX1_takeOut_14 rfl (lv_at hl 2 rfl) ?_
        refine lv_iload_n hx hb dX1_takeOut_15 rfl (lv_at hl 2 rfl) ?_
        refine lv_iconst (v := 1) hx hb dX1_takeOut_16 (by decide) ?_
        refine lv_isub hx hb dX1_takeOut_17 ?_
        refine kc_v (kr_V [] ⟨hx, hb, hml, hown, hts⟩ (cn_X1_copyRehearsal_self l G qd qdb qde qdf db de df dc dp dk x2 (x2 - (1 : Int32)) hw H.size) (cwV 3 hts gX1_takeOut_X1_copyRehearsal rfl rfl rfl (by decide +kernel) ⟨Nat.le_of_ble_eq_true rfl, Nat.le_of_ble_eq_true rfl⟩) hK hG hP hD hS hA [0, 1, 2, 3] rfl rfl 1 0 rfl rfl rfl hl.1 rfl (Nat.le_of_ble_eq_true rfl) dX1_takeOut_18 ⟨Nat.le_of_ble_eq_true rfl, Nat.le_of_ble_eq_true rfl⟩) hP hD hS hA [0, 1, 2, 3] [] rfl rfl rfl (by decide) (fun u H locs hw hP hD hS => ?_)
        obtain ⟨db_3, de_4, df_5⟩ := u
        try dsimp only at hw
        have hP := hP.sub (ws' := (w0_X1_takeOut G qd qdb qde qdf db_3 de_4 df_5 dc dp dk)) [0, 1, 2, 3] rfl
        have hD := hD.sub (ws' := (w0_X1_takeOut G qd qdb qde qdf db_3 de_4 df_5 dc dp dk)) [0, 1, 2, 3] rfl rfl
        refine lv_iinc (v := (x2 + 1)) (lv' := [(2, .int (x2 + 1)), (0, .ref qd), (1, .int x1)]) hx hb dX1_takeOut_21 hl (k := 2) rfl rfl (by decide) rfl (fun ls hl => ?_)
        refine lv_goto (tgt := 4) hx hb dX1_takeOut_24 (by decide) ?_
        exact ih db_3 de_4 df_5 dc dk x1 (x2 + 1) _ _ _ hP hD hS (lv_sub hl [1, 2, 0] rfl) hw
  unfold wn_X1_takeOut at hw
  refine lv_iload_n hx hb dX1_takeOut_0 rfl (lv_at hl 1 rfl) ?_
  refine lv_iconst (v := 1) hx hb dX1_takeOut_1 (by decide) ?_
  refine lv_iadd hx hb dX1_takeOut_2 ?_
  refine lv_istore_n (lv' := [(2, .int (a1 + (1 : Int32))), (0, .ref qd), (1, .int a1)]) hx hb dX1_takeOut_3 rfl hl (by decide) rfl (fun ls hl => ?_)
  obtain ⟨n4, hw⟩ := hw
  exact J4 n4 db de df dc dk a1 (a1 + (1 : Int32)) _ _ _ hP hD hS (lv_sub hl [1, 2, 0] rfl) hw

abbrev w0_X1_hasBooked (G : mG) (qd : Nat) (qdb : Nat) (qde : Nat) (qdf : Nat) (db : Nat → Int32) (de : Nat → Int32) (df : Nat → Int32) (dc : Int32) (dp : Int32) (dk : Int32) : va_W := [(qd, .inr (1, [.ref qdb, .ref qde, .ref qdf, .int dc, .int dp, .int dk])), (qdb, .inl (gI G, (14, .inl db))), (qde, .inl (gI G, (14, .inl de))), (qdf, .inl (gI G, (14, .inl df)))]
set_option maxRecDepth 100000 in
theorem k_X1_hasBooked_inX1 : ∀ w ∈ u_ws RX1 TX1 6, w ∈ wsX1_hasBooked := by decide +kernel
set_option maxRecDepth 100000 in
theorem k_X1_hasBooked_f28 : Cond.fieldLink RX1 28 "RehearsalRoom$Day" "bookings" "I" ∈ wsX1_hasBooked := by decide +kernel
set_option maxHeartbeats 8000000 in
set_option maxRecDepth 100000 in
theorem cn_X1_hasBooked (l : Launch) (G : mG) (qd : Nat) (qdb : Nat) (qde : Nat) (qdf : Nat) (db : Nat → Int32) (de : Nat → Int32) (df : Nat → Int32) (dc : Int32) (dp : Int32) (dk : Int32) (a1 : Int32) {Q : Int32 → Prop} (hw : wn_X1_hasBooked dk a1 Q) (sz : Nat) :
    Met l yX1_hasBooked wsX1_hasBooked ({ frames := 2, cells := 0, slots := 0, locals := 41 } : Room) (va_Pc [.ref qd, .int a1] (mPre G (w0_X1_hasBooked G qd qdb qde qdf db de df dc dp dk) sz)) (va_Qi (fun (r : Int32) (u : Unit) => (r = 0 ∨ r = 1) ∧ Q r) (mBk G (va_A (w0_X1_hasBooked G qd qdb qde qdf db de df dc dp dk) sz) (fun (u : Unit) => (w0_X1_hasBooked G qd qdb qde qdf db de df dc dp dk))) (va_A (w0_X1_hasBooked G qd qdb qde qdf db de df dc dp dk) sz)) 0 0 (va_A (w0_X1_hasBooked G qd qdb qde qdf db de df dc dp dk) sz) := by
  refine ms_i (cc := cX1_hasBooked) (maxL := 2) (ret := some .boolean) (post := (fun (r : Int32) (u : Unit) => (r = 0 ∨ r = 1) ∧ Q r)) (w1 := (fun (u : Unit) => (w0_X1_hasBooked G qd qdb qde qdf db de df dc dp dk))) (by decide) rfl (Nat.le_of_ble_eq_true rfl) ?_ sz
  intro p e s m below meth c A ls H locs hx hb hr hml hown hts hlocks hK hG hP hD hS hA hl
  have hown : s.vm.findClass RX1 = some m.cls := hown
  have hl : lv_has ls 2 [(0, .ref qd), (1, .int a1)] := hl
  unfold wn_X1_hasBooked at hw
  refine lv_aload_n hx hb dX1_hasBooked_0 rfl (lv_at hl 0 rfl) ?_
  refine va_get (D := gD G) (ci := 1) (v := .int dk) (C := RX1) (T := TX1) (N := 6) hx hb hts k_X1_hasBooked_inX1 hown hK hP 0 rfl rfl 5 (by decide) (hts _ k_X1_hasBooked_f28) (fun _ h9 => h9) rfl dX1_hasBooked_1 ?_
  refine lv_iload_n hx hb dX1_hasBooked_4 rfl (lv_at hl 1 rfl) ?_
  refine kcR_i (kr_SN [] ⟨hx, hb, hml, hown, hts⟩ (cn_X5_isIn l G dk a1 hw H.size) ⟨(va_cnB 2 hts gX1_hasBooked_X5_isIn_n39 rfl rfl rfl (hG.1 (RX1, 39, yX5_isIn) (by decide +kernel)) (hts (.initialized RX5) (by decide +kernel)) (by decide +kernel) ⟨Nat.le_of_ble_eq_true rfl, Nat.le_of_ble_eq_true rfl⟩), hts (.static yX5_isIn) (by decide +kernel)⟩ hK hG hP hD hS hA [] rfl rfl rfl hl.1 rfl (Nat.le_of_ble_eq_true rfl) dX1_hasBooked_5 ⟨Nat.le_of_ble_eq_true rfl, Nat.le_of_ble_eq_true rfl⟩) hP hD hS hA [] rfl (fun r1 u H locs hw hP hS => ?_)
  try dsimp only at hw
  obtain ⟨hz_r1, hw⟩ := hw
  exact fin_z () hx hb hr (nz hz_r1) hlocks hK hS hP hD ⟨hz_r1, hw⟩ dX1_hasBooked_8

abbrev w0_X1_quartersOf (G : mG) (qd : Nat) (qdb : Nat) (qde : Nat) (qdf : Nat) (db : Nat → Int32) (de : Nat → Int32) (df : Nat → Int32) (dc : Int32) (dp : Int32) (dk : Int32) : va_W := [(qd, .inr (1, [.ref qdb, .ref qde, .ref qdf, .int dc, .int dp, .int dk])), (qdb, .inl (gI G, (14, .inl db))), (qde, .inl (gI G, (14, .inl de))), (qdf, .inl (gI G, (14, .inl df)))]
set_option maxRecDepth 100000 in
theorem k_X1_quartersOf_inX1 : ∀ w ∈ u_ws RX1 TX1 6, w ∈ wsX1_quartersOf := by decide +kernel
set_option maxRecDepth 100000 in
theorem k_X1_quartersOf_f15 : Cond.fieldLink RX1 15 "RehearsalRoom$Day" "ends" "[I" ∈ wsX1_quartersOf := by decide +kernel
set_option maxRecDepth 100000 in
theorem k_X1_quartersOf_f9 : Cond.fieldLink RX1 9 "RehearsalRoom$Day" "begins" "[I" ∈ wsX1_quartersOf := by decide +kernel
set_option maxHeartbeats 8000000 in
set_option maxRecDepth 100000 in
theorem cn_X1_quartersOf (l : Launch) (G : mG) (qd : Nat) (qdb : Nat) (qde : Nat) (qdf : Nat) (db : Nat → Int32) (de : Nat → Int32) (df : Nat → Int32) (dc : Int32) (dp : Int32) (dk : Int32) (a1 : Int32) {Q : Int32 → Prop} (hw : wn_X1_quartersOf db de a1 Q) (sz : Nat) :
    Met l yX1_quartersOf wsX1_quartersOf ({ frames := 0, cells := 0, slots := 0, locals := 0 } : Room) (va_Pc [.ref qd, .int a1] (mPre G (w0_X1_quartersOf G qd qdb qde qdf db de df dc dp dk) sz)) (va_Qi (fun (r : Int32) (u : Unit) => Q r) (mBk G (va_A (w0_X1_quartersOf G qd qdb qde qdf db de df dc dp dk) sz) (fun (u : Unit) => (w0_X1_quartersOf G qd qdb qde qdf db de df dc dp dk))) (va_A (w0_X1_quartersOf G qd qdb qde qdf db de df dc dp dk) sz)) 0 0 (va_A (w0_X1_quartersOf G qd qdb qde qdf db de df dc dp dk) sz) := by
  refine ms_i (cc := cX1_quartersOf) (maxL := 2) (ret := some .int) (post := (fun (r : Int32) (u : Unit) => Q r)) (w1 := (fun (u : Unit) => (w0_X1_quartersOf G qd qdb qde qdf db de df dc dp dk))) (by decide) rfl (Nat.le_of_ble_eq_true rfl) ?_ sz
  intro p e s m below meth c A ls H locs hx hb hr hml hown hts hlocks hK hG hP hD hS hA hl
  have hown : s.vm.findClass RX1 = some m.cls := hown
  have hl : lv_has ls 2 [(0, .ref qd), (1, .int a1)] := hl
  unfold wn_X1_quartersOf at hw
  refine lv_aload_n hx hb dX1_quartersOf_0 rfl (lv_at hl 0 rfl) ?_
  refine va_get (D := gD G) (ci := 1) (v := .ref qde) (C := RX1) (T := TX1) (N := 6) hx hb hts k_X1_quartersOf_inX1 hown hK hP 0 rfl rfl 1 (by decide) (hts _ k_X1_quartersOf_f15) (fun _ h9 => h9) rfl dX1_quartersOf_1 ?_
  refine lv_iload_n hx hb dX1_quartersOf_4 rfl (lv_at hl 1 rfl) ?_
  obtain ⟨h1, hw⟩ := hw
  refine va_iald hx hb hK hP 2 0 rfl rfl h1 dX1_quartersOf_5 ?_
  refine lv_aload_n hx hb dX1_quartersOf_6 rfl (lv_at hl 0 rfl) ?_
  refine va_get (D := gD G) (ci := 1) (v := .ref qdb) (C := RX1) (T := TX1) (N := 6) hx hb hts k_X1_quartersOf_inX1 hown hK hP 0 rfl rfl 0 (by decide) (hts _ k_X1_quartersOf_f9) (fun _ h9 => h9) rfl dX1_quartersOf_7 ?_
  refine lv_iload_n hx hb dX1_quartersOf_10 rfl (lv_at hl 1 rfl) ?_
  obtain ⟨h2, hw⟩ := hw
  refine va_iald hx hb hK hP 1 0 rfl rfl h2 dX1_quartersOf_11 ?_
  refine lv_isub hx hb dX1_quartersOf_12 ?_
  exact fin_i () hx hb hr hlocks hK hS hP hD hw dX1_quartersOf_13

abbrev w0_X1_fameOfSet (G : mG) (qd : Nat) (qdb : Nat) (qde : Nat) (qdf : Nat) (db : Nat → Int32) (de : Nat → Int32) (df : Nat → Int32) (dc : Int32) (dp : Int32) (dk : Int32) : va_W := [(qd, .inr (1, [.ref qdb, .ref qde, .ref qdf, .int dc, .int dp, .int dk])), (qdb, .inl (gI G, (14, .inl db))), (qde, .inl (gI G, (14, .inl de))), (qdf, .inl (gI G, (14, .inl df)))]
set_option maxRecDepth 100000 in
theorem k_X1_fameOfSet_inX1 : ∀ w ∈ u_ws RX1 TX1 6, w ∈ wsX1_fameOfSet := by decide +kernel
set_option maxRecDepth 100000 in
theorem k_X1_fameOfSet_f21 : Cond.fieldLink RX1 21 "RehearsalRoom$Day" "count" "I" ∈ wsX1_fameOfSet := by decide +kernel
set_option maxRecDepth 100000 in
theorem k_X1_fameOfSet_f18 : Cond.fieldLink RX1 18 "RehearsalRoom$Day" "fames" "[I" ∈ wsX1_fameOfSet := by decide +kernel
set_option maxHeartbeats 8000000 in
set_option maxRecDepth 100000 in
theorem cn_X1_fameOfSet (l : Launch) (G : mG) (qd : Nat) (qdb : Nat) (qde : Nat) (qdf : Nat) (db : Nat → Int32) (de : Nat → Int32) (df : Nat → Int32) (dc : Int32) (dp : Int32) (dk : Int32) (a1 : Int32) {Q : Int32 → Prop} (hw : wn_X1_fameOfSet df dc a1 Q) (sz : Nat) :
    Met l yX1_fameOfSet wsX1_fameOfSet ({ frames := 2, cells := 0, slots := 0, locals := 41 } : Room) (va_Pc [.ref qd, .int a1] (mPre G (w0_X1_fameOfSet G qd qdb qde qdf db de df dc dp dk) sz)) (va_Qi (fun (r : Int32) (u : Unit) => Q r) (mBk G (va_A (w0_X1_fameOfSet G qd qdb qde qdf db de df dc dp dk) sz) (fun (u : Unit) => (w0_X1_fameOfSet G qd qdb qde qdf db de df dc dp dk))) (va_A (w0_X1_fameOfSet G qd qdb qde qdf db de df dc dp dk) sz)) 0 0 (va_A (w0_X1_fameOfSet G qd qdb qde qdf db de df dc dp dk) sz) := by
  refine ms_i (cc := cX1_fameOfSet) (maxL := 4) (ret := some .int) (post := (fun (r : Int32) (u : Unit) => Q r)) (w1 := (fun (u : Unit) => (w0_X1_fameOfSet G qd qdb qde qdf db de df dc dp dk))) (by decide) rfl (Nat.le_of_ble_eq_true rfl) ?_ sz
  intro p e s m below meth c A ls H locs hx hb hr hml hown hts hlocks hK hG hP hD hS hA hl
  have hown : s.vm.findClass RX1 = some m.cls := hown
  have hl : lv_has ls 4 [(0, .ref qd), (1, .int a1)] := hl
  have J4 : ∀ (n : Nat) (x1 : Int32) (x2 : Int32) (x3 : Int32) (H : Heap) (locs : List Loc) (ls : Array Slot), va_P (gD G) vwCl (w0_X1_fameOfSet G qd qdb qde qdf db de df dc dp dk) H → va_D A (w0_X1_fameOfSet G qd qdb qde qdf db de df dc dp dk) → va_S A s.heap H locs → lv_has ls 4 [(0, .ref qd), (1, .int x1), (2, .int x2), (3, .int x3)] → wl_n_X1_fameOfSet_4 df dc Q n x1 x2 x3 → W p l e ({ frames := 2, cells := 0, slots := 0, locals := 41 } : Room) s m ([.ref qd, .int a1] : List Value).toArray below meth c H locs 0 0 (MQ below (va_Qi (fun (r : Int32) (u : Unit) => Q r) (mBk G A (fun (u : Unit) => (w0_X1_fameOfSet G qd qdb qde qdf db de df dc dp dk))) A) ([.ref qd, .int a1] : List Value).toArray s 0 0 A) (F0 m 4 ls []) := by
    intro n
    induction n with
    | zero => intro x1 x2 x3 H locs ls hP hD hS hl hw; exact False.elim hw
    | succ n ih =>
      intro x1 x2 x3 H locs ls hP hD hS hl hw
      rw [wl_n_X1_fameOfSet_4] at hw
      refine lv_iload_n hx hb dX1_fameOfSet_4 rfl (lv_at hl 3 rfl) ?_
      refine lv_aload_n hx hb dX1_fameOfSet_5 rfl (lv_at hl 0 rfl) ?_
      refine va_get (D := gD G) (ci := 1) (v := .int dc) (C := RX1) (T := TX1) (N := 6) hx hb hts k_X1_fameOfSet_inX1 hown hK hP 0 rfl rfl 3 (by decide) (hts _ k_X1_fameOfSet_f21) (fun _ h9 => h9) rfl dX1_fameOfSet_6 ?_
      refine lv_icmp_ge (tgt := 35) hx hb dX1_fameOfSet_9 (by decide) (fun cd1 => ?_) (fun cd1 => ?_)
      · have hw := hw.1 cd1
        refine lv_iload_n hx hb dX1_fameOfSet_35 rfl (lv_at hl 2 rfl) ?_
        exact fin_i () hx hb hr hlocks hK hS hP hD hw dX1_fameOfSet_36
      · have hw := hw.2 cd1
        refine lv_iload_n hx hb dX1_fameOfSet_12 rfl (lv_at hl 1 rfl) ?_
        refine lv_iload_n hx hb dX1_fameOfSet_13 rfl (lv_at hl 3 rfl) ?_
        refine kcR_i (kr_SN [] ⟨hx, hb, hml, hown, hts⟩ (cn_X5_isIn l G x1 x3 hw H.size) ⟨(va_cnB 2 hts gX1_fameOfSet_X5_isIn_n39 rfl rfl rfl (hG.1 (RX1, 39, yX5_isIn) (by decide +kernel)) (hts (.initialized RX5) (by decide +kernel)) (by decide +kernel) ⟨Nat.le_of_ble_eq_true rfl, Nat.le_of_ble_eq_true rfl⟩), hts (.static yX5_isIn) (by decide +kernel)⟩ hK hG hP hD hS hA [] rfl rfl rfl hl.1 rfl (Nat.le_of_ble_eq_true rfl) dX1_fameOfSet_14 ⟨Nat.le_of_ble_eq_true rfl, Nat.le_of_ble_eq_true rfl⟩) hP hD hS hA [] rfl (fun r2 u H locs hw hP hS => ?_)
        try dsimp only at hw
        obtain ⟨hz_r2, hw⟩ := hw
        refine lv_if_eq (tgt := 29) hx hb dX1_fameOfSet_17 (by decide) (fun cd3 => ?_) (fun cd3 => ?_)
        · have hw := hw.1 cd3
          refine lv_iinc (v := (x3 + 1)) (lv' := [(3, .int (x3 + 1)), (0, .ref qd), (1, .int x1), (2, .int x2)]) hx hb dX1_fameOfSet_29 hl (k := 3) rfl rfl (by decide) rfl (fun ls hl => ?_)
          refine lv_goto (tgt := 4) hx hb dX1_fameOfSet_32 (by decide) ?_
          exact ih x1 x2 (x3 + 1) _ _ _ hP hD hS (lv_sub hl [1, 2, 3, 0] rfl) hw
        · have hw := hw.2 cd3
          refine lv_iload_n hx hb dX1_fameOfSet_20 rfl (lv_at hl 2 rfl) ?_
          refine lv_aload_n hx hb dX1_fameOfSet_21 rfl (lv_at hl 0 rfl) ?_
          refine va_get (D := gD G) (ci := 1) (v := .ref qdf) (C := RX1) (T := TX1) (N := 6) hx hb hts k_X1_fameOfSet_inX1 hown hK hP 0 rfl rfl 2 (by decide) (hts _ k_X1_fameOfSet_f18) (fun _ h9 => h9) rfl dX1_fameOfSet_22 ?_
          refine lv_iload_n hx hb dX1_fameOfSet_25 rfl (lv_at hl 3 rfl) ?_
          obtain ⟨h4, hw⟩ := hw
          refine va_iald hx hb hK hP 3 0 rfl rfl h4 dX1_fameOfSet_26 ?_
          refine lv_iadd hx hb dX1_fameOfSet_27 ?_
          refine lv_istore_n (lv' := [(2, .int (x2 + (df x3.toNatClampNeg))), (0, .ref qd), (1, .int x1), (3, .int x3)]) hx hb dX1_fameOfSet_28 rfl hl (by decide) rfl (fun ls hl => ?_)
          refine lv_iinc (v := (x3 + 1)) (lv' := [(3, .int (x3 + 1)), (2, .int (x2 + (df x3.toNatClampNeg))), (0, .ref qd), (1, .int x1)]) hx hb dX1_fameOfSet_29 hl (k := 3) rfl rfl (by decide) rfl (fun ls hl => ?_)
          refine lv_goto (tgt := 4) hx hb dX1_fameOfSet_32 (by decide) ?_
          exact ih x1 (x2 + (df x3.toNatClampNeg)) (x3 + 1) _ _ _ hP hD hS (lv_sub hl [2, 3, 1, 0] rfl) hw
  unfold wn_X1_fameOfSet at hw
  refine lv_iconst (v := 0) hx hb dX1_fameOfSet_0 (by decide) ?_
  refine lv_istore_n (lv' := [(2, .int (0 : Int32)), (0, .ref qd), (1, .int a1)]) hx hb dX1_fameOfSet_1 rfl hl (by decide) rfl (fun ls hl => ?_)
  refine lv_iconst (v := 0) hx hb dX1_fameOfSet_2 (by decide) ?_
  refine lv_istore_n (lv' := [(3, .int (0 : Int32)), (2, .int (0 : Int32)), (0, .ref qd), (1, .int a1)]) hx hb dX1_fameOfSet_3 rfl hl (by decide) rfl (fun ls hl => ?_)
  obtain ⟨n4, hw⟩ := hw
  exact J4 n4 a1 (0 : Int32) (0 : Int32) _ _ _ hP hD hS (lv_sub hl [2, 3, 1, 0] rfl) hw

abbrev w0_X1_quartersOfSet (G : mG) (qd : Nat) (qdb : Nat) (qde : Nat) (qdf : Nat) (db : Nat → Int32) (de : Nat → Int32) (df : Nat → Int32) (dc : Int32) (dp : Int32) (dk : Int32) : va_W := [(qd, .inr (1, [.ref qdb, .ref qde, .ref qdf, .int dc, .int dp, .int dk])), (qdb, .inl (gI G, (14, .inl db))), (qde, .inl (gI G, (14, .inl de))), (qdf, .inl (gI G, (14, .inl df)))]
set_option maxRecDepth 100000 in
theorem k_X1_quartersOfSet_inX1 : ∀ w ∈ u_ws RX1 TX1 6, w ∈ wsX1_quartersOfSet := by decide +kernel
set_option maxRecDepth 100000 in
theorem k_X1_quartersOfSet_f21 : Cond.fieldLink RX1 21 "RehearsalRoom$Day" "count" "I" ∈ wsX1_quartersOfSet := by decide +kernel
set_option maxHeartbeats 8000000 in
set_option maxRecDepth 100000 in
theorem cn_X1_quartersOfSet (l : Launch) (G : mG) (qd : Nat) (qdb : Nat) (qde : Nat) (qdf : Nat) (db : Nat → Int32) (de : Nat → Int32) (df : Nat → Int32) (dc : Int32) (dp : Int32) (dk : Int32) (a1 : Int32) {Q : Int32 → Prop} (hw : wn_X1_quartersOfSet db de dc a1 Q) (sz : Nat) :
    Met l yX1_quartersOfSet wsX1_quartersOfSet ({ frames := 2, cells := 0, slots := 0, locals := 41 } : Room) (va_Pc [.ref qd, .int a1] (mPre G (w0_X1_quartersOfSet G qd qdb qde qdf db de df dc dp dk) sz)) (va_Qi (fun (r : Int32) (u : Unit) => Q r) (mBk G (va_A (w0_X1_quartersOfSet G qd qdb qde qdf db de df dc dp dk) sz) (fun (u : Unit) => (w0_X1_quartersOfSet G qd qdb qde qdf db de df dc dp dk))) (va_A (w0_X1_quartersOfSet G qd qdb qde qdf db de df dc dp dk) sz)) 0 0 (va_A (w0_X1_quartersOfSet G qd qdb qde qdf db de df dc dp dk) sz) := by
  refine ms_i (cc := cX1_quartersOfSet) (maxL := 4) (ret := some .int) (post := (fun (r : Int32) (u : Unit) => Q r)) (w1 := (fun (u : Unit) => (w0_X1_quartersOfSet G qd qdb qde qdf db de df dc dp dk))) (by decide) rfl (Nat.le_of_ble_eq_true rfl) ?_ sz
  intro p e s m below meth c A ls H locs hx hb hr hml hown hts hlocks hK hG hP hD hS hA hl
  have hown : s.vm.findClass RX1 = some m.cls := hown
  have hl : lv_has ls 4 [(0, .ref qd), (1, .int a1)] := hl
  have J4 : ∀ (n : Nat) (x1 : Int32) (x2 : Int32) (x3 : Int32) (H : Heap) (locs : List Loc) (ls : Array Slot), va_P (gD G) vwCl (w0_X1_quartersOfSet G qd qdb qde qdf db de df dc dp dk) H → va_D A (w0_X1_quartersOfSet G qd qdb qde qdf db de df dc dp dk) → va_S A s.heap H locs → lv_has ls 4 [(0, .ref qd), (1, .int x1), (2, .int x2), (3, .int x3)] → wl_n_X1_quartersOfSet_4 db de dc Q n x1 x2 x3 → W p l e ({ frames := 2, cells := 0, slots := 0, locals := 41 } : Room) s m ([.ref qd, .int a1] : List Value).toArray below meth c H locs 0 0 (MQ below (va_Qi (fun (r : Int32) (u : Unit) => Q r) (mBk G A (fun (u : Unit) => (w0_X1_quartersOfSet G qd qdb qde qdf db de df dc dp dk))) A) ([.ref qd, .int a1] : List Value).toArray s 0 0 A) (F0 m 4 ls []) := by
    intro n
    induction n with
    | zero => intro x1 x2 x3 H locs ls hP hD hS hl hw; exact False.elim hw
    | succ n ih =>
      intro x1 x2 x3 H locs ls hP hD hS hl hw
      rw [wl_n_X1_quartersOfSet_4] at hw
      refine lv_iload_n hx hb dX1_quartersOfSet_4 rfl (lv_at hl 3 rfl) ?_
      refine lv_aload_n hx hb dX1_quartersOfSet_5 rfl (lv_at hl 0 rfl) ?_
      refine va_get (D := gD G) (ci := 1) (v := .int dc) (C := RX1) (T := TX1) (N := 6) hx hb hts k_X1_quartersOfSet_inX1 hown hK hP 0 rfl rfl 3 (by decide) (hts _ k_X1_quartersOfSet_f21) (fun _ h9 => h9) rfl dX1_quartersOfSet_6 ?_
      refine lv_icmp_ge (tgt := 34) hx hb dX1_quartersOfSet_9 (by decide) (fun cd1 => ?_) (fun cd1 => ?_)
      · have hw := hw.1 cd1
        refine lv_iload_n hx hb dX1_quartersOfSet_34 rfl (lv_at hl 2 rfl) ?_
        exact fin_i () hx hb hr hlocks hK hS hP hD hw dX1_quartersOfSet_35
      · have hw := hw.2 cd1
        refine lv_iload_n hx hb dX1_quartersOfSet_12 rfl (lv_at hl 1 rfl) ?_
        refine lv_iload_n hx hb dX1_quartersOfSet_13 rfl (lv_at hl 3 rfl) ?_
        refine kcR_i (kr_SN [] ⟨hx, hb, hml, hown, hts⟩ (cn_X5_isIn l G x1 x3 hw H.size) ⟨(va_cnB 2 hts gX1_quartersOfSet_X5_isIn_n39 rfl rfl rfl (hG.1 (RX1, 39, yX5_isIn) (by decide +kernel)) (hts (.initialized RX5) (by decide +kernel)) (by decide +kernel) ⟨Nat.le_of_ble_eq_true rfl, Nat.le_of_ble_eq_true rfl⟩), hts (.static yX5_isIn) (by decide +kernel)⟩ hK hG hP hD hS hA [] rfl rfl rfl hl.1 rfl (Nat.le_of_ble_eq_true rfl) dX1_quartersOfSet_14 ⟨Nat.le_of_ble_eq_true rfl, Nat.le_of_ble_eq_true rfl⟩) hP hD hS hA [] rfl (fun r2 u H locs hw hP hS => ?_)
        try dsimp only at hw
        obtain ⟨hz_r2, hw⟩ := hw
        refine lv_if_eq (tgt := 28) hx hb dX1_quartersOfSet_17 (by decide) (fun cd3 => ?_) (fun cd3 => ?_)
        · have hw := hw.1 cd3
          refine lv_iinc (v := (x3 + 1)) (lv' := [(3, .int (x3 + 1)), (0, .ref qd), (1, .int x1), (2, .int x2)]) hx hb dX1_quartersOfSet_28 hl (k := 3) rfl rfl (by decide) rfl (fun ls hl => ?_)
          refine lv_goto (tgt := 4) hx hb dX1_quartersOfSet_31 (by decide) ?_
          exact ih x1 x2 (x3 + 1) _ _ _ hP hD hS (lv_sub hl [1, 2, 3, 0] rfl) hw
        · have hw := hw.2 cd3
          refine lv_iload_n hx hb dX1_quartersOfSet_20 rfl (lv_at hl 2 rfl) ?_
          refine lv_aload_n hx hb dX1_quartersOfSet_21 rfl (lv_at hl 0 rfl) ?_
          refine lv_iload_n hx hb dX1_quartersOfSet_22 rfl (lv_at hl 3 rfl) ?_
          refine kcR_i (kr_V [.int x2] ⟨hx, hb, hml, hown, hts⟩ (cn_X1_quartersOf l G qd qdb qde qdf db de df dc dp dk x3 hw H.size) (cwV 1 hts gX1_quartersOfSet_X1_quartersOf rfl rfl rfl (by decide +kernel) ⟨Nat.le_of_ble_eq_true rfl, Nat.le_of_ble_eq_true rfl⟩) hK hG hP hD hS hA [0, 1, 2, 3] rfl rfl 1 0 rfl rfl rfl hl.1 rfl (Nat.le_of_ble_eq_true rfl) dX1_quartersOfSet_23 ⟨Nat.le_of_ble_eq_true rfl, Nat.le_of_ble_eq_true rfl⟩) hP hD hS hA [0, 1, 2, 3] rfl (fun r4 u H locs hw hP hS => ?_)
          try dsimp only at hw
          refine lv_iadd hx hb dX1_quartersOfSet_26 ?_
          refine lv_istore_n (lv' := [(2, .int (x2 + r4)), (0, .ref qd), (1, .int x1), (3, .int x3)]) hx hb dX1_quartersOfSet_27 rfl hl (by decide) rfl (fun ls hl => ?_)
          refine lv_iinc (v := (x3 + 1)) (lv' := [(3, .int (x3 + 1)), (2, .int (x2 + r4)), (0, .ref qd), (1, .int x1)]) hx hb dX1_quartersOfSet_28 hl (k := 3) rfl rfl (by decide) rfl (fun ls hl => ?_)
          refine lv_goto (tgt := 4) hx hb dX1_quartersOfSet_31 (by decide) ?_
          exact ih x1 (x2 + r4) (x3 + 1) _ _ _ hP hD hS (lv_sub hl [2, 3, 1, 0] rfl) hw
  unfold wn_X1_quartersOfSet at hw
  refine lv_iconst (v := 0) hx hb dX1_quartersOfSet_0 (by decide) ?_
  refine lv_istore_n (lv' := [(2, .int (0 : Int32)), (0, .ref qd), (1, .int a1)]) hx hb dX1_quartersOfSet_1 rfl hl (by decide) rfl (fun ls hl => ?_)
  refine lv_iconst (v := 0) hx hb dX1_quartersOfSet_2 (by decide) ?_
  refine lv_istore_n (lv' := [(3, .int (0 : Int32)), (2, .int (0 : Int32)), (0, .ref qd), (1, .int a1)]) hx hb dX1_quartersOfSet_3 rfl hl (by decide) rfl (fun ls hl => ?_)
  obtain ⟨n4, hw⟩ := hw
  exact J4 n4 a1 (0 : Int32) (0 : Int32) _ _ _ hP hD hS (lv_sub hl [2, 3, 1, 0] rfl) hw

abbrev w0_X1_bookingsAllow (G : mG) (qd : Nat) (qdb : Nat) (qde : Nat) (qdf : Nat) (db : Nat → Int32) (de : Nat → Int32) (df : Nat → Int32) (dc : Int32) (dp : Int32) (dk : Int32) : va_W := [(qd, .inr (1, [.ref qdb, .ref qde, .ref qdf, .int dc, .int dp, .int dk])), (qdb, .inl (gI G, (14, .inl db))), (qde, .inl (gI G, (14, .inl de))), (qdf, .inl (gI G, (14, .inl df)))]
set_option maxRecDepth 100000 in
theorem k_X1_bookingsAllow_inX1 : ∀ w ∈ u_ws RX1 TX1 6, w ∈ wsX1_bookingsAllow := by decide +kernel
set_option maxRecDepth 100000 in
theorem k_X1_bookingsAllow_f21 : Cond.fieldLink RX1 21 "RehearsalRoom$Day" "count" "I" ∈ wsX1_bookingsAllow := by decide +kernel
set_option maxRecDepth 100000 in
theorem k_X1_bookingsAllow_f25 : Cond.fieldLink RX1 25 "RehearsalRoom$Day" "pause" "I" ∈ wsX1_bookingsAllow := by decide +kernel
set_option maxHeartbeats 8000000 in
set_option maxRecDepth 100000 in
theorem cn_X1_bookingsAllow (l : Launch) (G : mG) (qd : Nat) (qdb : Nat) (qde : Nat) (qdf : Nat) (db : Nat → Int32) (de : Nat → Int32) (df : Nat → Int32) (dc : Int32) (dp : Int32) (dk : Int32) (a1 : Int32) (a2 : Int32) (a3 : Int32) {Q : Int32 → Prop} (hw : wn_X1_bookingsAllow db de dc dp dk a1 a2 a3 Q) (sz : Nat) :
    Met l yX1_bookingsAllow wsX1_bookingsAllow ({ frames := 3, cells := 0, slots := 0, locals := 62 } : Room) (va_Pc [.ref qd, .int a1, .int a2, .int a3] (mPre G (w0_X1_bookingsAllow G qd qdb qde qdf db de df dc dp dk) sz)) (va_Qi (fun (r : Int32) (u : Unit) => (r = 0 ∨ r = 1) ∧ Q r) (mBk G (va_A (w0_X1_bookingsAllow G qd qdb qde qdf db de df dc dp dk) sz) (fun (u : Unit) => (w0_X1_bookingsAllow G qd qdb qde qdf db de df dc dp dk))) (va_A (w0_X1_bookingsAllow G qd qdb qde qdf db de df dc dp dk) sz)) 0 0 (va_A (w0_X1_bookingsAllow G qd qdb qde qdf db de df dc dp dk) sz) := by
  refine ms_i (cc := cX1_bookingsAllow) (maxL := 5) (ret := some .boolean) (post := (fun (r : Int32) (u : Unit) => (r = 0 ∨ r = 1) ∧ Q r)) (w1 := (fun (u : Unit) => (w0_X1_bookingsAllow G qd qdb qde qdf db de df dc dp dk))) (by decide) rfl (Nat.le_of_ble_eq_true rfl) ?_ sz
  intro p e s m below meth c A ls H locs hx hb hr hml hown hts hlocks hK hG hP hD hS hA hl
  have hown : s.vm.findClass RX1 = some m.cls := hown
  have hl : lv_has ls 5 [(0, .ref qd), (1, .int a1), (2, .int a2), (3, .int a3)] := hl
  have J3 : ∀ (n : Nat) (x1 : Int32) (x2 : Int32) (x3 : Int32) (x4 : Int32) (H : Heap) (locs : List Loc) (ls : Array Slot), va_P (gD G) vwCl (w0_X1_bookingsAllow G qd qdb qde qdf db de df dc dp dk) H → va_D A (w0_X1_bookingsAllow G qd qdb qde qdf db de df dc dp dk) → va_S A s.heap H locs → lv_has ls 5 [(0, .ref qd), (1, .int x1), (2, .int x2), (3, .int x3), (4, .int x4)] → wl_n_X1_bookingsAllow_3 db de dc dp dk Q n x1 x2 x3 x4 → W p l e ({ frames := 3, cells := 0, slots := 0, locals := 62 } : Room) s m ([.ref qd, .int a1, .int a2, .int a3] : List Value).toArray below meth c H locs 0 0 (MQ below (va_Qi (fun (r : Int32) (u : Unit) => (r = 0 ∨ r = 1) ∧ Q r) (mBk G A (fun (u : Unit) => (w0_X1_bookingsAllow G qd qdb qde qdf db de df dc dp dk))) A) ([.ref qd, .int a1, .int a2, .int a3] : List Value).toArray s 0 0 A) (F0 m 3 ls []) := by
    intro n
    induction n with
    | zero => intro x1 x2 x3 x4 H locs ls hP hD hS hl hw; exact False.elim hw
    | succ n ih =>
      intro x1 x2 x3 x4 H locs ls hP hD hS hl hw
      rw [wl_n_X1_bookingsAllow_3] at hw
      refine lv_iload hx hb dX1_bookingsAllow_3 (lv_at hl 4 rfl) ?_
      refine lv_aload_n hx hb dX1_bookingsAllow_5 rfl (lv_at hl 0 rfl) ?_
      refine va_get (D := gD G) (ci := 1) (v := .int dc) (C := RX1) (T := TX1) (N := 6) hx hb hts k_X1_bookingsAllow_inX1 hown hK hP 0 rfl rfl 3 (by decide) (hts _ k_X1_bookingsAllow_f21) (fun _ h9 => h9) rfl dX1_bookingsAllow_6 ?_
      refine lv_icmp_ge (tgt := 50) hx hb dX1_bookingsAllow_9 (by decide) (fun cd1 => ?_) (fun cd1 => ?_)
      · have hw := hw.1 cd1
        refine lv_iconst (v := 1) hx hb dX1_bookingsAllow_50 (by decide) ?_
        exact fin_z () hx hb hr (nz (Or.inr rfl)) hlocks hK hS hP hD ⟨(Or.inr rfl), hw⟩ dX1_bookingsAllow_51
      · have hw := hw.2 cd1
        refine lv_iload hx hb dX1_bookingsAllow_12 (lv_at hl 4 rfl) ?_
        refine lv_iload_n hx hb dX1_bookingsAllow_14 rfl (lv_at hl 1 rfl) ?_
        refine lv_icmp_eq (tgt := 44) hx hb dX1_bookingsAllow_15 (by decide) (fun cd2 => ?_) (fun cd2 => ?_)
        · have hw := hw.1 cd2
          refine lv_iinc (v := (x4 + 1)) (lv' := [(4, .int (x4 + 1)), (0, .ref qd), (1, .int x1), (2, .int x2), (3, .int x3)]) hx hb dX1_bookingsAllow_44 hl (k := 4) rfl rfl (by decide) rfl (fun ls hl => ?_)
          refine lv_goto (tgt := 3) hx hb dX1_bookingsAllow_47 (by decide) ?_
          exact ih x1 x2 x3 (x4 + 1) _ _ _ hP hD hS (lv_sub hl [1, 2, 3, 4, 0] rfl) hw
        · have hw := hw.2 cd2
          refine lv_aload_n hx hb dX1_bookingsAllow_18 rfl (lv_at hl 0 rfl) ?_
          refine lv_iload hx hb dX1_bookingsAllow_19 (lv_at hl 4 rfl) ?_
          refine kcR_i (kr_V [] ⟨hx, hb, hml, hown, hts⟩ (cn_X1_hasBooked l G qd qdb qde qdf db de df dc dp dk x4 hw H.size) (cwV 1 hts gX1_bookingsAllow_X1_hasBooked rfl rfl rfl (by decide +kernel) ⟨Nat.le_of_ble_eq_true rfl, Nat.le_of_ble_eq_true rfl⟩) hK hG hP hD hS hA [0, 1, 2, 3] rfl rfl 1 0 rfl rfl rfl hl.1 rfl (Nat.le_of_ble_eq_true rfl) dX1_bookingsAllow_21 ⟨Nat.le_of_ble_eq_true rfl, Nat.le_of_ble_eq_true rfl⟩) hP hD hS hA [0, 1, 2, 3] rfl (fun r3 u H locs hw hP hS => ?_)
          try dsimp only at hw
          obtain ⟨hz_r3, hw⟩ := hw
          refine lv_if_eq (tgt := 44) hx hb dX1_bookingsAllow_24 (by decide) (fun cd4 => ?_) (fun cd4 => ?_)
          · have hw := hw.1 cd4
            refine lv_iinc (v := (x4 + 1)) (lv' := [(4, .int (x4 + 1)), (0, .ref qd), (1, .int x1), (2, .int x2), (3, .int x3)]) hx hb dX1_bookingsAllow_44 hl (k := 4) rfl rfl (by decide) rfl (fun ls hl => ?_)
            refine lv_goto (tgt := 3) hx hb dX1_bookingsAllow_47 (by decide) ?_
            exact ih x1 x2 x3 (x4 + 1) _ _ _ hP hD hS (lv_sub hl [1, 2, 3, 4, 0] rfl) hw
          · have hw := hw.2 cd4
            refine lv_aload_n hx hb dX1_bookingsAllow_27 rfl (lv_at hl 0 rfl) ?_
            refine lv_iload hx hb dX1_bookingsAllow_28 (lv_at hl 4 rfl) ?_
            refine lv_iload_n hx hb dX1_bookingsAllow_30 rfl (lv_at hl 2 rfl) ?_
            refine lv_iload_n hx hb dX1_bookingsAllow_31 rfl (lv_at hl 3 rfl) ?_
            refine lv_aload_n hx hb dX1_bookingsAllow_32 rfl (lv_at hl 0 rfl) ?_
            refine va_get (D := gD G) (ci := 1) (v := .int dp) (C := RX1) (T := TX1) (N := 6) hx hb hts k_X1_bookingsAllow_inX1 hown hK hP 0 rfl rfl 4 (by decide) (hts _ k_X1_bookingsAllow_f25) (fun _ h9 => h9) rfl dX1_bookingsAllow_33 ?_
            refine kcR_i (kr_V [] ⟨hx, hb, hml, hown, hts⟩ (cn_X1_clashWithTimes l G qd qdb qde qdf db de df dc dp dk x4 x2 x3 dp hw H.size) (cwV 4 hts gX1_bookingsAllow_X1_clashWithTimes rfl rfl rfl (by decide +kernel) ⟨Nat.le_of_ble_eq_true rfl, Nat.le_of_ble_eq_true rfl⟩) hK hG hP hD hS hA [0, 1, 2, 3] rfl rfl 1 0 rfl rfl rfl hl.1 rfl (Nat.le_of_ble_eq_true rfl) dX1_bookingsAllow_36 ⟨Nat.le_of_ble_eq_true rfl, Nat.le_of_ble_eq_true rfl⟩) hP hD hS hA [0, 1, 2, 3] rfl (fun r5 u H locs hw hP hS => ?_)
            try dsimp only at hw
            obtain ⟨hz_r5, hw⟩ := hw
            refine lv_if_eq (tgt := 44) hx hb dX1_bookingsAllow_39 (by decide) (fun cd6 => ?_) (fun cd6 => ?_)
            · have hw := hw.1 cd6
              refine lv_iinc (v := (x4 + 1)) (lv' := [(4, .int (x4 + 1)), (0, .ref qd), (1, .int x1), (2, .int x2), (3, .int x3)]) hx hb dX1_bookingsAllow_44 hl (k := 4) rfl rfl (by decide) rfl (fun ls hl => ?_)
              refine lv_goto (tgt := 3) hx hb dX1_bookingsAllow_47 (by decide) ?_
              exact ih x1 x2 x3 (x4 + 1) _ _ _ hP hD hS (lv_sub hl [1, 2, 3, 4, 0] rfl) hw
            · have hw := hw.2 cd6
              refine lv_iconst (v := 0) hx hb dX1_bookingsAllow_42 (by decide) ?_
              exact fin_z () hx hb hr (nz (Or.inl rfl)) hlocks hK hS hP hD ⟨(Or.inl rfl), hw⟩ dX1_bookingsAllow_43
  unfold wn_X1_bookingsAllow at hw
  refine lv_iconst (v := 0) hx hb dX1_bookingsAllow_0 (by decide) ?_
  refine lv_istore (lv' := [(4, .int (0 : Int32)), (0, .ref qd), (1, .int a1), (2, .int a2), (3, .int a3)]) hx hb dX1_bookingsAllow_1 hl (by decide) rfl (fun ls hl => ?_)
  obtain ⟨n3, hw⟩ := hw
  exact J3 n3 a1 a2 a3 (0 : Int32) _ _ _ hP hD hS (lv_sub hl [1, 2, 3, 4, 0] rfl) hw

abbrev w0_X1_bookingsAllowPause (G : mG) (qd : Nat) (qdb : Nat) (qde : Nat) (qdf : Nat) (db : Nat → Int32) (de : Nat → Int32) (df : Nat → Int32) (dc : Int32) (dp : Int32) (dk : Int32) : va_W := [(qd, .inr (1, [.ref qdb, .ref qde, .ref qdf, .int dc, .int dp, .int dk])), (qdb, .inl (gI G, (14, .inl db))), (qde, .inl (gI G, (14, .inl de))), (qdf, .inl (gI G, (14, .inl df)))]
set_option maxRecDepth 100000 in
theorem k_X1_bookingsAllowPause_inX1 : ∀ w ∈ u_ws RX1 TX1 6, w ∈ wsX1_bookingsAllowPause := by decide +kernel
set_option maxRecDepth 100000 in
theorem k_X1_bookingsAllowPause_f21 : Cond.fieldLink RX1 21 "RehearsalRoom$Day" "count" "I" ∈ wsX1_bookingsAllowPause := by decide +kernel
set_option maxRecDepth 100000 in
theorem k_X1_bookingsAllowPause_f9 : Cond.fieldLink RX1 9 "RehearsalRoom$Day" "begins" "[I" ∈ wsX1_bookingsAllowPause := by decide +kernel
set_option maxRecDepth 100000 in
theorem k_X1_bookingsAllowPause_f15 : Cond.fieldLink RX1 15 "RehearsalRoom$Day" "ends" "[I" ∈ wsX1_bookingsAllowPause := by decide +kernel
set_option maxHeartbeats 8000000 in
set_option maxRecDepth 100000 in
theorem cn_X1_bookingsAllowPause (l : Launch) (G : mG) (qd : Nat) (qdb : Nat) (qde : Nat) (qdf : Nat) (db : Nat → Int32) (de : Nat → Int32) (df : Nat → Int32) (dc : Int32) (dp : Int32) (dk : Int32) (a1 : Int32) {Q : Int32 → Prop} (hw : wn_X1_bookingsAllowPause db de dc dk a1 Q) (sz : Nat) :
    Met l yX1_bookingsAllowPause wsX1_bookingsAllowPause ({ frames := 3, cells := 0, slots := 0, locals := 62 } : Room) (va_Pc [.ref qd, .int a1] (mPre G (w0_X1_bookingsAllowPause G qd qdb qde qdf db de df dc dp dk) sz)) (va_Qi (fun (r : Int32) (u : Unit) => (r = 0 ∨ r = 1) ∧ Q r) (mBk G (va_A (w0_X1_bookingsAllowPause G qd qdb qde qdf db de df dc dp dk) sz) (fun (u : Unit) => (w0_X1_bookingsAllowPause G qd qdb qde qdf db de df dc dp dk))) (va_A (w0_X1_bookingsAllowPause G qd qdb qde qdf db de df dc dp dk) sz)) 0 0 (va_A (w0_X1_bookingsAllowPause G qd qdb qde qdf db de df dc dp dk) sz) := by
  refine ms_i (cc := cX1_bookingsAllowPause) (maxL := 4) (ret := some .boolean) (post := (fun (r : Int32) (u : Unit) => (r = 0 ∨ r = 1) ∧ Q r)) (w1 := (fun (u : Unit) => (w0_X1_bookingsAllowPause G qd qdb qde qdf db de df dc dp dk))) (by decide) rfl (Nat.le_of_ble_eq_true rfl) ?_ sz
  intro p e s m below meth c A ls H locs hx hb hr hml hown hts hlocks hK hG hP hD hS hA hl
  have hown : s.vm.findClass RX1 = some m.cls := hown
  have hl : lv_has ls 4 [(0, .ref qd), (1, .int a1)] := hl
  have J14 : ∀ (k2 : Int32 → Int32 → Prop) (hk2 : ∀ (x1 : Int32) (x2 : Int32) (H : Heap) (locs : List Loc) (ls : Array Slot), va_P (gD G) vwCl (w0_X1_bookingsAllowPause G qd qdb qde qdf db de df dc dp dk) H → va_D A (w0_X1_bookingsAllowPause G qd qdb qde qdf db de df dc dp dk) → va_S A s.heap H locs → lv_has ls 4 [(0, .ref qd), (1, .int x1), (2, .int x2)] → k2 x1 x2 → W p l e ({ frames := 3, cells := 0, slots := 0, locals := 62 } : Room) s m ([.ref qd, .int a1] : List Value).toArray below meth c H locs 0 0 (MQ below (va_Qi (fun (r : Int32) (u : Unit) => (r = 0 ∨ r = 1) ∧ Q r) (mBk G A (fun (u : Unit) => (w0_X1_bookingsAllowPause G qd qdb qde qdf db de df dc dp dk))) A) ([.ref qd, .int a1] : List Value).toArray s 0 0 A) (F0 m 2 ls [])) (n : Nat) (x1 : Int32) (x2 : Int32) (x3 : Int32) (H : Heap) (locs : List Loc) (ls : Array Slot), va_P (gD G) vwCl (w0_X1_bookingsAllowPause G qd qdb qde qdf db de df dc dp dk) H → va_D A (w0_X1_bookingsAllowPause G qd qdb qde qdf db de df dc dp dk) → va_S A s.heap H locs → lv_has ls 4 [(0, .ref qd), (1, .int x1), (2, .int x2), (3, .int x3)] → wl_n_X1_bookingsAllowPause_14 db de dc dk Q k2 n x1 x2 x3 → W p l e ({ frames := 3, cells := 0, slots := 0, locals := 62 } : Room) s m ([.ref qd, .int a1] : List Value).toArray below meth c H locs 0 0 (MQ below (va_Qi (fun (r : Int32) (u : Unit) => (r = 0 ∨ r = 1) ∧ Q r) (mBk G A (fun (u : Unit) => (w0_X1_bookingsAllowPause G qd qdb qde qdf db de df dc dp dk))) A) ([.ref qd, .int a1] : List Value).toArray s 0 0 A) (F0 m 14 ls []) := by
    intro k2 hk2 n
    induction n with
    | zero => intro x1 x2 x3 H locs ls hP hD hS hl hw; exact False.elim hw
    | succ n ih =>
      intro x1 x2 x3 H locs ls hP hD hS hl hw
      rw [wl_n_X1_bookingsAllowPause_14] at hw
      refine lv_iload_n hx hb dX1_bookingsAllowPause_14 rfl (lv_at hl 3 rfl) ?_
      refine lv_aload_n hx hb dX1_bookingsAllowPause_15 rfl (lv_at hl 0 rfl) ?_
      refine va_get (D := gD G) (ci := 1) (v := .int dc) (C := RX1) (T := TX1) (N := 6) hx hb hts k_X1_bookingsAllowPause_inX1 hown hK hP 0 rfl rfl 3 (by decide) (hts _ k_X1_bookingsAllowPause_f21) (fun _ h9 => h9) rfl dX1_bookingsAllowPause_16 ?_
      refine lv_icmp_ge (tgt := 67) hx hb dX1_bookingsAllowPause_19 (by decide) (fun cd2 => ?_) (fun cd2 => ?_)
      · have hw := hw.1 cd2
        refine lv_iinc (v := (x2 + 1)) (lv' := [(2, .int (x2 + 1)), (0, .ref qd), (1, .int x1), (3, .int x3)]) hx hb dX1_bookingsAllowPause_67 hl (k := 2) rfl rfl (by decide) rfl (fun ls hl => ?_)
        refine lv_goto (tgt := 2) hx hb dX1_bookingsAllowPause_70 (by decide) ?_
        exact hk2 x1 (x2 + 1) _ _ _ hP hD hS (lv_sub hl [1, 2, 0] rfl) hw
      · have hw := hw.2 cd2
        refine lv_aload_n hx hb dX1_bookingsAllowPause_22 rfl (lv_at hl 0 rfl) ?_
        refine lv_iload_n hx hb dX1_bookingsAllowPause_23 rfl (lv_at hl 2 rfl) ?_
        refine kcR_i (kr_V [] ⟨hx, hb, hml, hown, hts⟩ (cn_X1_hasBooked l G qd qdb qde qdf db de df dc dp dk x2 hw H.size) (cwV 1 hts gX1_bookingsAllowPause_X1_hasBooked rfl rfl rfl (by decide +kernel) ⟨Nat.le_of_ble_eq_true rfl, Nat.le_of_ble_eq_true rfl⟩) hK hG hP hD hS hA [0, 1, 2, 3] rfl rfl 1 0 rfl rfl rfl hl.1 rfl (Nat.le_of_ble_eq_true rfl) dX1_bookingsAllowPause_24 ⟨Nat.le_of_ble_eq_true rfl, Nat.le_of_ble_eq_true rfl⟩) hP hD hS hA [0, 1, 2, 3] rfl (fun r3 u H locs hw hP hS => ?_)
        try dsimp only at hw
        obtain ⟨hz_r3, hw⟩ := hw
        refine lv_if_eq (tgt := 61) hx hb dX1_bookingsAllowPause_27 (by decide) (fun cd4 => ?_) (fun cd4 => ?_)
        · have hw := hw.1 cd4
          refine lv_iinc (v := (x3 + 1)) (lv' := [(3, .int (x3 + 1)), (0, .ref qd), (1, .int x1), (2, .int x2)]) hx hb dX1_bookingsAllowPause_61 hl (k := 3) rfl rfl (by decide) rfl (fun ls hl => ?_)
          refine lv_goto (tgt := 14) hx hb dX1_bookingsAllowPause_64 (by decide) ?_
          exact ih x1 x2 (x3 + 1) _ _ _ hP hD hS (lv_sub hl [1, 2, 3, 0] rfl) hw
        · have hw := hw.2 cd4
          refine lv_aload_n hx hb dX1_bookingsAllowPause_30 rfl (lv_at hl 0 rfl) ?_
          refine lv_iload_n hx hb dX1_bookingsAllowPause_31 rfl (lv_at hl 3 rfl) ?_
          refine kcR_i (kr_V [] ⟨hx, hb, hml, hown, hts⟩ (cn_X1_hasBooked l G qd qdb qde qdf db de df dc dp dk x3 hw H.size) (cwV 1 hts gX1_bookingsAllowPause_X1_hasBooked rfl rfl rfl (by decide +kernel) ⟨Nat.le_of_ble_eq_true rfl, Nat.le_of_ble_eq_true rfl⟩) hK hG hP hD hS hA [0, 1, 2, 3] rfl rfl 1 0 rfl rfl rfl hl.1 rfl (Nat.le_of_ble_eq_true rfl) dX1_bookingsAllowPause_32 ⟨Nat.le_of_ble_eq_true rfl, Nat.le_of_ble_eq_true rfl⟩) hP hD hS hA [0, 1, 2, 3] rfl (fun r5 u H locs hw hP hS => ?_)
          try dsimp only at hw
          obtain ⟨hz_r5, hw⟩ := hw
          refine lv_if_eq (tgt := 61) hx hb dX1_bookingsAllowPause_35 (by decide) (fun cd6 => ?_) (fun cd6 => ?_)
          · have hw := hw.1 cd6
            refine lv_iinc (v := (x3 + 1)) (lv' := [(3, .int (x3 + 1)), (0, .ref qd), (1, .int x1), (2, .int x2)]) hx hb dX1_bookingsAllowPause_61 hl (k := 3) rfl rfl (by decide) rfl (fun ls hl => ?_)
            refine lv_goto (tgt := 14) hx hb dX1_bookingsAllowPause_64 (by decide) ?_
            exact ih x1 x2 (x3 + 1) _ _ _ hP hD hS (lv_sub hl [1, 2, 3, 0] rfl) hw
          · have hw := hw.2 cd6
            refine lv_aload_n hx hb dX1_bookingsAllowPause_38 rfl (lv_at hl 0 rfl) ?_
            refine lv_iload_n hx hb dX1_bookingsAllowPause_39 rfl (lv_at hl 2 rfl) ?_
            refine lv_aload_n hx hb dX1_bookingsAllowPause_40 rfl (lv_at hl 0 rfl) ?_
            refine va_get (D := gD G) (ci := 1) (v := .ref qdb) (C := RX1) (T := TX1) (N := 6) hx hb hts k_X1_bookingsAllowPause_inX1 hown hK hP 0 rfl rfl 0 (by decide) (hts _ k_X1_bookingsAllowPause_f9) (fun _ h9 => h9) rfl dX1_bookingsAllowPause_41 ?_
            refine lv_iload_n hx hb dX1_bookingsAllowPause_44 rfl (lv_at hl 3 rfl) ?_
            obtain ⟨h7, hw⟩ := hw
            refine va_iald hx hb hK hP 1 0 rfl rfl h7 dX1_bookingsAllowPause_45 ?_
            refine lv_aload_n hx hb dX1_bookingsAllowPause_46 rfl (lv_at hl 0 rfl) ?_
            refine va_get (D := gD G) (ci := 1) (v := .ref qde) (C := RX1) (T := TX1) (N := 6) hx hb hts k_X1_bookingsAllowPause_inX1 hown hK hP 0 rfl rfl 1 (by decide) (hts _ k_X1_bookingsAllowPause_f15) (fun _ h9 => h9) rfl dX1_bookingsAllowPause_47 ?_
            refine lv_iload_n hx hb dX1_bookingsAllowPause_50 rfl (lv_at hl 3 rfl) ?_
            obtain ⟨h8, hw⟩ := hw
            refine va_iald hx hb hK hP 2 0 rfl rfl h8 dX1_bookingsAllowPause_51 ?_
            refine lv_iload_n hx hb dX1_bookingsAllowPause_52 rfl (lv_at hl 1 rfl) ?_
            refine kcR_i (kr_V [] ⟨hx, hb, hml, hown, hts⟩ (cn_X1_clashWithTimes l G qd qdb qde qdf db de df dc dp dk x2 (db x3.toNatClampNeg) (de x3.toNatClampNeg) x1 hw H.size) (cwV 4 hts gX1_bookingsAllowPause_X1_clashWithTimes rfl rfl rfl (by decide +kernel) ⟨Nat.le_of_ble_eq_true rfl, Nat.le_of_ble_eq_true rfl⟩) hK hG hP hD hS hA [0, 1, 2, 3] rfl rfl 1 0 rfl rfl rfl hl.1 rfl (Nat.le_of_ble_eq_true rfl) dX1_bookingsAllowPause_53 ⟨Nat.le_of_ble_eq_true rfl, Nat.le_of_ble_eq_true rfl⟩) hP hD hS hA [0, 1, 2, 3] rfl (fun r9 u H locs hw hP hS => ?_)
            try dsimp only at hw
            obtain ⟨hz_r9, hw⟩ := hw
            refine lv_if_eq (tgt := 61) hx hb dX1_bookingsAllowPause_56 (by decide) (fun cd10 => ?_) (fun cd10 => ?_)
            · have hw := hw.1 cd10
              refine lv_iinc (v := (x3 + 1)) (lv' := [(3, .int (x3 + 1)), (0, .ref qd), (1, .int x1), (2, .int x2)]) hx hb dX1_bookingsAllowPause_61 hl (k := 3) rfl rfl (by decide) rfl (fun ls hl => ?_)
              refine lv_goto (tgt := 14) hx hb dX1_bookingsAllowPause_64 (by decide) ?_
              exact ih x1 x2 (x3 + 1) _ _ _ hP hD hS (lv_sub hl [1, 2, 3, 0] rfl) hw
            · have hw := hw.2 cd10
              refine lv_iconst (v := 0) hx hb dX1_bookingsAllowPause_59 (by decide) ?_
              exact fin_z () hx hb hr (nz (Or.inl rfl)) hlocks hK hS hP hD ⟨(Or.inl rfl), hw⟩ dX1_bookingsAllowPause_60
  have J2 : ∀ (n : Nat) (x1 : Int32) (x2 : Int32) (H : Heap) (locs : List Loc) (ls : Array Slot), va_P (gD G) vwCl (w0_X1_bookingsAllowPause G qd qdb qde qdf db de df dc dp dk) H → va_D A (w0_X1_bookingsAllowPause G qd qdb qde qdf db de df dc dp dk) → va_S A s.heap H locs → lv_has ls 4 [(0, .ref qd), (1, .int x1), (2, .int x2)] → wl_n_X1_bookingsAllowPause_2 db de dc dk Q n x1 x2 → W p l e ({ frames := 3, cells := 0, slots := 0, locals := 62 } : Room) s m ([.ref qd, .int a1] : List Value).toArray below meth c H locs 0 0 (MQ below (va_Qi (fun (r : Int32) (u : Unit) => (r = 0 ∨ r = 1) ∧ Q r) (mBk G A (fun (u : Unit) => (w0_X1_bookingsAllowPause G qd qdb qde qdf db de df dc dp dk))) A) ([.ref qd, .int a1] : List Value).toArray s 0 0 A) (F0 m 2 ls []) := by
    intro n
    induction n with
    | zero => intro x1 x2 H locs ls hP hD hS hl hw; exact False.elim hw
    | succ n ih =>
      intro x1 x2 H locs ls hP hD hS hl hw
      rw [wl_n_X1_bookingsAllowPause_2] at hw
      refine lv_iload_n hx hb dX1_bookingsAllowPause_2 rfl (lv_at hl 2 rfl) ?_
      refine lv_aload_n hx hb dX1_bookingsAllowPause_3 rfl (lv_at hl 0 rfl) ?_
      refine va_get (D := gD G) (ci := 1) (v := .int dc) (C := RX1) (T := TX1) (N := 6) hx hb hts k_X1_bookingsAllowPause_inX1 hown hK hP 0 rfl rfl 3 (by decide) (hts _ k_X1_bookingsAllowPause_f21) (fun _ h9 => h9) rfl dX1_bookingsAllowPause_4 ?_
      refine lv_icmp_ge (tgt := 73) hx hb dX1_bookingsAllowPause_7 (by decide) (fun cd1 => ?_) (fun cd1 => ?_)
      · have hw := hw.1 cd1
        refine lv_iconst (v := 1) hx hb dX1_bookingsAllowPause_73 (by decide) ?_
        exact fin_z () hx hb hr (nz (Or.inr rfl)) hlocks hK hS hP hD ⟨(Or.inr rfl), hw⟩ dX1_bookingsAllowPause_74
      · have hw := hw.2 cd1
        refine lv_iload_n hx hb dX1_bookingsAllowPause_10 rfl (lv_at hl 2 rfl) ?_
        refine lv_iconst (v := 1) hx hb dX1_bookingsAllowPause_11 (by decide) ?_
        refine lv_iadd hx hb dX1_bookingsAllowPause_12 ?_
        refine lv_istore_n (lv' := [(3, .int (x2 + (1 : Int32))), (0, .ref qd), (1, .int x1), (2, .int x2)]) hx hb dX1_bookingsAllowPause_13 rfl hl (by decide) rfl (fun ls hl => ?_)
        obtain ⟨n14, hw⟩ := hw
        exact J14 (fun (z0 : Int32) (z1 : Int32) => wl_n_X1_bookingsAllowPause_2 db de dc dk Q n z0 z1) ih n14 x1 x2 (x2 + (1 : Int32)) _ _ _ hP hD hS (lv_sub hl [1, 2, 3, 0] rfl) hw
  unfold wn_X1_bookingsAllowPause at hw
  refine lv_iconst (v := 0) hx hb dX1_bookingsAllowPause_0 (by decide) ?_
  refine lv_istore_n (lv' := [(2, .int (0 : Int32)), (0, .ref qd), (1, .int a1)]) hx hb dX1_bookingsAllowPause_1 rfl hl (by decide) rfl (fun ls hl => ?_)
  obtain ⟨n2, hw⟩ := hw
  exact J2 n2 a1 (0 : Int32) _ _ _ hP hD hS (lv_sub hl [1, 2, 0] rfl) hw

abbrev w0_X1_beginningAt (G : mG) (qd : Nat) (qdb : Nat) (qde : Nat) (qdf : Nat) (db : Nat → Int32) (de : Nat → Int32) (df : Nat → Int32) (dc : Int32) (dp : Int32) (dk : Int32) : va_W := [(qd, .inr (1, [.ref qdb, .ref qde, .ref qdf, .int dc, .int dp, .int dk])), (qdb, .inl (gI G, (14, .inl db))), (qde, .inl (gI G, (14, .inl de))), (qdf, .inl (gI G, (14, .inl df)))]
set_option maxRecDepth 100000 in
theorem k_X1_beginningAt_inX1 : ∀ w ∈ u_ws RX1 TX1 6, w ∈ wsX1_beginningAt := by decide +kernel
set_option maxRecDepth 100000 in
theorem k_X1_beginningAt_f21 : Cond.fieldLink RX1 21 "RehearsalRoom$Day" "count" "I" ∈ wsX1_beginningAt := by decide +kernel
set_option maxRecDepth 100000 in
theorem k_X1_beginningAt_f9 : Cond.fieldLink RX1 9 "RehearsalRoom$Day" "begins" "[I" ∈ wsX1_beginningAt := by decide +kernel
set_option maxHeartbeats 8000000 in
set_option maxRecDepth 100000 in
theorem cn_X1_beginningAt (l : Launch) (G : mG) (qd : Nat) (qdb : Nat) (qde : Nat) (qdf : Nat) (db : Nat → Int32) (de : Nat → Int32) (df : Nat → Int32) (dc : Int32) (dp : Int32) (dk : Int32) (a1 : Int32) {Q : Int32 → Prop} (hw : wn_X1_beginningAt db dc a1 Q) (sz : Nat) :
    Met l yX1_beginningAt wsX1_beginningAt ({ frames := 0, cells := 0, slots := 0, locals := 0 } : Room) (va_Pc [.ref qd, .int a1] (mPre G (w0_X1_beginningAt G qd qdb qde qdf db de df dc dp dk) sz)) (va_Qi (fun (r : Int32) (u : Unit) => Q r) (mBk G (va_A (w0_X1_beginningAt G qd qdb qde qdf db de df dc dp dk) sz) (fun (u : Unit) => (w0_X1_beginningAt G qd qdb qde qdf db de df dc dp dk))) (va_A (w0_X1_beginningAt G qd qdb qde qdf db de df dc dp dk) sz)) 0 0 (va_A (w0_X1_beginningAt G qd qdb qde qdf db de df dc dp dk) sz) := by
  refine ms_i (cc := cX1_beginningAt) (maxL := 4) (ret := some .int) (post := (fun (r : Int32) (u : Unit) => Q r)) (w1 := (fun (u : Unit) => (w0_X1_beginningAt G qd qdb qde qdf db de df dc dp dk))) (by decide) rfl (Nat.le_of_ble_eq_true rfl) ?_ sz
  intro p e s m below meth c A ls H locs hx hb hr hml hown hts hlocks hK hG hP hD hS hA hl
  have hown : s.vm.findClass RX1 = some m.cls := hown
  have hl : lv_has ls 4 [(0, .ref qd), (1, .int a1)] := hl
  have J4 : ∀ (n : Nat) (x1 : Int32) (x2 : Int32) (x3 : Int32) (H : Heap) (locs : List Loc) (ls : Array Slot), va_P (gD G) vwCl (w0_X1_beginningAt G qd qdb qde qdf db de df dc dp dk) H → va_D A (w0_X1_beginningAt G qd qdb qde qdf db de df dc dp dk) → va_S A s.heap H locs → lv_has ls 4 [(0, .ref qd), (1, .int x1), (2, .int x2), (3, .int x3)] → wl_n_X1_beginningAt_4 db dc Q n x1 x2 x3 → W p l e ({ frames := 0, cells := 0, slots := 0, locals := 0 } : Room) s m ([.ref qd, .int a1] : List Value).toArray below meth c H locs 0 0 (MQ below (va_Qi (fun (r : Int32) (u : Unit) => Q r) (mBk G A (fun (u : Unit) => (w0_X1_beginningAt G qd qdb qde qdf db de df dc dp dk))) A) ([.ref qd, .int a1] : List Value).toArray s 0 0 A) (F0 m 4 ls []) := by
    intro n
    induction n with
    | zero => intro x1 x2 x3 H locs ls hP hD hS hl hw; exact False.elim hw
    | succ n ih =>
      intro x1 x2 x3 H locs ls hP hD hS hl hw
      rw [wl_n_X1_beginningAt_4] at hw
      refine lv_iload_n hx hb dX1_beginningAt_4 rfl (lv_at hl 3 rfl) ?_
      refine lv_aload_n hx hb dX1_beginningAt_5 rfl (lv_at hl 0 rfl) ?_
      refine va_get (D := gD G) (ci := 1) (v := .int dc) (C := RX1) (T := TX1) (N := 6) hx hb hts k_X1_beginningAt_inX1 hown hK hP 0 rfl rfl 3 (by decide) (hts _ k_X1_beginningAt_f21) (fun _ h9 => h9) rfl dX1_beginningAt_6 ?_
      refine lv_icmp_ge (tgt := 31) hx hb dX1_beginningAt_9 (by decide) (fun cd1 => ?_) (fun cd1 => ?_)
      · have hw := hw.1 cd1
        refine lv_iload_n hx hb dX1_beginningAt_31 rfl (lv_at hl 2 rfl) ?_
        exact fin_i () hx hb hr hlocks hK hS hP hD hw dX1_beginningAt_32
      · have hw := hw.2 cd1
        refine lv_aload_n hx hb dX1_beginningAt_12 rfl (lv_at hl 0 rfl) ?_
        refine va_get (D := gD G) (ci := 1) (v := .ref qdb) (C := RX1) (T := TX1) (N := 6) hx hb hts k_X1_beginningAt_inX1 hown hK hP 0 rfl rfl 0 (by decide) (hts _ k_X1_beginningAt_f9) (fun _ h9 => h9) rfl dX1_beginningAt_13 ?_
        refine lv_iload_n hx hb dX1_beginningAt_16 rfl (lv_at hl 3 rfl) ?_
        obtain ⟨h2, hw⟩ := hw
        refine va_iald hx hb hK hP 1 0 rfl rfl h2 dX1_beginningAt_17 ?_
        refine lv_iload_n hx hb dX1_beginningAt_18 rfl (lv_at hl 1 rfl) ?_
        refine lv_icmp_ne (tgt := 25) hx hb dX1_beginningAt_19 (by decide) (fun cd3 => ?_) (fun cd3 => ?_)
        · have hw := hw.1 cd3
          refine lv_iinc (v := (x3 + 1)) (lv' := [(3, .int (x3 + 1)), (0, .ref qd), (1, .int x1), (2, .int x2)]) hx hb dX1_beginningAt_25 hl (k := 3) rfl rfl (by decide) rfl (fun ls hl => ?_)
          refine lv_goto (tgt := 4) hx hb dX1_beginningAt_28 (by decide) ?_
          exact ih x1 x2 (x3 + 1) _ _ _ hP hD hS (lv_sub hl [1, 2, 3, 0] rfl) hw
        · have hw := hw.2 cd3
          refine lv_iinc (v := (x2 + 1)) (lv' := [(2, .int (x2 + 1)), (0, .ref qd), (1, .int x1), (3, .int x3)]) hx hb dX1_beginningAt_22 hl (k := 2) rfl rfl (by decide) rfl (fun ls hl => ?_)
          refine lv_iinc (v := (x3 + 1)) (lv' := [(3, .int (x3 + 1)), (2, .int (x2 + 1)), (0, .ref qd), (1, .int x1)]) hx hb dX1_beginningAt_25 hl (k := 3) rfl rfl (by decide) rfl (fun ls hl => ?_)
          refine lv_goto (tgt := 4) hx hb dX1_beginningAt_28 (by decide) ?_
          exact ih x1 (x2 + 1) (x3 + 1) _ _ _ hP hD hS (lv_sub hl [2, 3, 1, 0] rfl) hw
  unfold wn_X1_beginningAt at hw
  refine lv_iconst (v := 0) hx hb dX1_beginningAt_0 (by decide) ?_
  refine lv_istore_n (lv' := [(2, .int (0 : Int32)), (0, .ref qd), (1, .int a1)]) hx hb dX1_beginningAt_1 rfl hl (by decide) rfl (fun ls hl => ?_)
  refine lv_iconst (v := 0) hx hb dX1_beginningAt_2 (by decide) ?_
  refine lv_istore_n (lv' := [(3, .int (0 : Int32)), (2, .int (0 : Int32)), (0, .ref qd), (1, .int a1)]) hx hb dX1_beginningAt_3 rfl hl (by decide) rfl (fun ls hl => ?_)
  obtain ⟨n4, hw⟩ := hw
  exact J4 n4 a1 (0 : Int32) (0 : Int32) _ _ _ hP hD hS (lv_sub hl [2, 3, 1, 0] rfl) hw

abbrev w0_X1_overAt (G : mG) (qd : Nat) (qdb : Nat) (qde : Nat) (qdf : Nat) (db : Nat → Int32) (de : Nat → Int32) (df : Nat → Int32) (dc : Int32) (dp : Int32) (dk : Int32) : va_W := [(qd, .inr (1, [.ref qdb, .ref qde, .ref qdf, .int dc, .int dp, .int dk])), (qdb, .inl (gI G, (14, .inl db))), (qde, .inl (gI G, (14, .inl de))), (qdf, .inl (gI G, (14, .inl df)))]
set_option maxRecDepth 100000 in
theorem k_X1_overAt_inX1 : ∀ w ∈ u_ws RX1 TX1 6, w ∈ wsX1_overAt := by decide +kernel
set_option maxRecDepth 100000 in
theorem k_X1_overAt_f21 : Cond.fieldLink RX1 21 "RehearsalRoom$Day" "count" "I" ∈ wsX1_overAt := by decide +kernel
set_option maxRecDepth 100000 in
theorem k_X1_overAt_f15 : Cond.fieldLink RX1 15 "RehearsalRoom$Day" "ends" "[I" ∈ wsX1_overAt := by decide +kernel
set_option maxRecDepth 100000 in
theorem k_X1_overAt_f25 : Cond.fieldLink RX1 25 "RehearsalRoom$Day" "pause" "I" ∈ wsX1_overAt := by decide +kernel
set_option maxHeartbeats 8000000 in
set_option maxRecDepth 100000 in
theorem cn_X1_overAt (l : Launch) (G : mG) (qd : Nat) (qdb : Nat) (qde : Nat) (qdf : Nat) (db : Nat → Int32) (de : Nat → Int32) (df : Nat → Int32) (dc : Int32) (dp : Int32) (dk : Int32) (a1 : Int32) {Q : Int32 → Prop} (hw : wn_X1_overAt de dc dp a1 Q) (sz : Nat) :
    Met l yX1_overAt wsX1_overAt ({ frames := 0, cells := 0, slots := 0, locals := 0 } : Room) (va_Pc [.ref qd, .int a1] (mPre G (w0_X1_overAt G qd qdb qde qdf db de df dc dp dk) sz)) (va_Qi (fun (r : Int32) (u : Unit) => Q r) (mBk G (va_A (w0_X1_overAt G qd qdb qde qdf db de df dc dp dk) sz) (fun (u : Unit) => (w0_X1_overAt G qd qdb qde qdf db de df dc dp dk))) (va_A (w0_X1_overAt G qd qdb qde qdf db de df dc dp dk) sz)) 0 0 (va_A (w0_X1_overAt G qd qdb qde qdf db de df dc dp dk) sz) := by
  refine ms_i (cc := cX1_overAt) (maxL := 4) (ret := some .int) (post := (fun (r : Int32) (u : Unit) => Q r)) (w1 := (fun (u : Unit) => (w0_X1_overAt G qd qdb qde qdf db de df dc dp dk))) (by decide) rfl (Nat.le_of_ble_eq_true rfl) ?_ sz
  intro p e s m below meth c A ls H locs hx hb hr hml hown hts hlocks hK hG hP hD hS hA hl
  have hown : s.vm.findClass RX1 = some m.cls := hown
  have hl : lv_has ls 4 [(0, .ref qd), (1, .int a1)] := hl
  have J4 : ∀ (n : Nat) (x1 : Int32) (x2 : Int32) (x3 : Int32) (H : Heap) (locs : List Loc) (ls : Array Slot), va_P (gD G) vwCl (w0_X1_overAt G qd qdb qde qdf db de df dc dp dk) H → va_D A (w0_X1_overAt G qd qdb qde qdf db de df dc dp dk) → va_S A s.heap H locs → lv_has ls 4 [(0, .ref qd), (1, .int x1), (2, .int x2), (3, .int x3)] → wl_n_X1_overAt_4 de dc dp Q n x1 x2 x3 → W p l e ({ frames := 0, cells := 0, slots := 0, locals := 0 } : Room) s m ([.ref qd, .int a1] : List Value).toArray below meth c H locs 0 0 (MQ below (va_Qi (fun (r : Int32) (u : Unit) => Q r) (mBk G A (fun (u : Unit) => (w0_X1_overAt G qd qdb qde qdf db de df dc dp dk))) A) ([.ref qd, .int a1] : List Value).toArray s 0 0 A) (F0 m 4 ls []) := by
    intro n
    induction n with
    | zero => intro x1 x2 x3 H locs ls hP hD hS hl hw; exact False.elim hw
    | succ n ih =>
      intro x1 x2 x3 H locs ls hP hD hS hl hw
      rw [wl_n_X1_overAt_4] at hw
      refine lv_iload_n hx hb dX1_overAt_4 rfl (lv_at hl 3 rfl) ?_
      refine lv_aload_n hx hb dX1_overAt_5 rfl (lv_at hl 0 rfl) ?_
      refine va_get (D := gD G) (ci := 1) (v := .int dc) (C := RX1) (T := TX1) (N := 6) hx hb hts k_X1_overAt_inX1 hown hK hP 0 rfl rfl 3 (by decide) (hts _ k_X1_overAt_f21) (fun _ h9 => h9) rfl dX1_overAt_6 ?_
      refine lv_icmp_ge (tgt := 36) hx hb dX1_overAt_9 (by decide) (fun cd1 => ?_) (fun cd1 => ?_)
      · have hw := hw.1 cd1
        refine lv_iload_n hx hb dX1_overAt_36 rfl (lv_at hl 2 rfl) ?_
        exact fin_i () hx hb hr hlocks hK hS hP hD hw dX1_overAt_37
      · have hw := hw.2 cd1
        refine lv_aload_n hx hb dX1_overAt_12 rfl (lv_at hl 0 rfl) ?_
        refine va_get (D := gD G) (ci := 1) (v := .ref qde) (C := RX1) (T := TX1) (N := 6) hx hb hts k_X1_overAt_inX1 hown hK hP 0 rfl rfl 1 (by decide) (hts _ k_X1_overAt_f15) (fun _ h9 => h9) rfl dX1_overAt_13 ?_
        refine lv_iload_n hx hb dX1_overAt_16 rfl (lv_at hl 3 rfl) ?_
        obtain ⟨h2, hw⟩ := hw
        refine va_iald hx hb hK hP 2 0 rfl rfl h2 dX1_overAt_17 ?_
        refine lv_aload_n hx hb dX1_overAt_18 rfl (lv_at hl 0 rfl) ?_
        refine va_get (D := gD G) (ci := 1) (v := .int dp) (C := RX1) (T := TX1) (N := 6) hx hb hts k_X1_overAt_inX1 hown hK hP 0 rfl rfl 4 (by decide) (hts _ k_X1_overAt_f25) (fun _ h9 => h9) rfl dX1_overAt_19 ?_
        refine lv_iadd hx hb dX1_overAt_22 ?_
        refine lv_iload_n hx hb dX1_overAt_23 rfl (lv_at hl 1 rfl) ?_
        refine lv_icmp_ne (tgt := 30) hx hb dX1_overAt_24 (by decide) (fun cd3 => ?_) (fun cd3 => ?_)
        · have hw := hw.1 cd3
          refine lv_iinc (v := (x3 + 1)) (lv' := [(3, .int (x3 + 1)), (0, .ref qd), (1, .int x1), (2, .int x2)]) hx hb dX1_overAt_30 hl (k := 3) rfl rfl (by decide) rfl (fun ls hl => ?_)
          refine lv_goto (tgt := 4) hx hb dX1_overAt_33 (by decide) ?_
          exact ih x1 x2 (x3 + 1) _ _ _ hP hD hS (lv_sub hl [1, 2, 3, 0] rfl) hw
        · have hw := hw.2 cd3
          refine lv_iinc (v := (x2 + 1)) (lv' := [(2, .int (x2 + 1)), (0, .ref qd), (1, .int x1), (3, .int x3)]) hx hb dX1_overAt_27 hl (k := 2) rfl rfl (by decide) rfl (fun ls hl => ?_)
          refine lv_iinc (v := (x3 + 1)) (lv' := [(3, .int (x3 + 1)), (2, .int (x2 + 1)), (0, .ref qd), (1, .int x1)]) hx hb dX1_overAt_30 hl (k := 3) rfl rfl (by decide) rfl (fun ls hl => ?_)
          refine lv_goto (tgt := 4) hx hb dX1_overAt_33 (by decide) ?_
          exact ih x1 (x2 + 1) (x3 + 1) _ _ _ hP hD hS (lv_sub hl [2, 3, 1, 0] rfl) hw
  unfold wn_X1_overAt at hw
  refine lv_iconst (v := 0) hx hb dX1_overAt_0 (by decide) ?_
  refine lv_istore_n (lv' := [(2, .int (0 : Int32)), (0, .ref qd), (1, .int a1)]) hx hb dX1_overAt_1 rfl hl (by decide) rfl (fun ls hl => ?_)
  refine lv_iconst (v := 0) hx hb dX1_overAt_2 (by decide) ?_
  refine lv_istore_n (lv' := [(3, .int (0 : Int32)), (2, .int (0 : Int32)), (0, .ref qd), (1, .int a1)]) hx hb dX1_overAt_3 rfl hl (by decide) rfl (fun ls hl => ?_)
  obtain ⟨n4, hw⟩ := hw
  exact J4 n4 a1 (0 : Int32) (0 : Int32) _ _ _ hP hD hS (lv_sub hl [2, 3, 1, 0] rfl) hw

abbrev w0_X2_sweptPairs (G : mG) (qr : Nat) (qro : Nat) (qrg : Nat) (qd : Nat) (qdb : Nat) (qde : Nat) (qdf : Nat) (ro : Nat → Int32) (rg : Nat → Int32) (db : Nat → Int32) (de : Nat → Int32) (df : Nat → Int32) (dc : Int32) (dp : Int32) (dk : Int32) : va_W := [(qr, .inr (2, [.ref qro, .ref qrg])), (qro, .inl (gI G, (14, .inl ro))), (qrg, .inl (gI G, (14, .inl rg))), (qd, .inr (1, [.ref qdb, .ref qde, .ref qdf, .int dc, .int dp, .int dk])), (qdb, .inl (gI G, (14, .inl db))), (qde, .inl (gI G, (14, .inl de))), (qdf, .inl (gI G, (14, .inl df)))]
set_option maxHeartbeats 8000000 in
set_option maxRecDepth 100000 in
theorem cn_X2_sweptPairs (l : Launch) (G : mG) (qr : Nat) (qro : Nat) (qrg : Nat) (qd : Nat) (qdb : Nat) (qde : Nat) (qdf : Nat) (ro : Nat → Int32) (rg : Nat → Int32) (db : Nat → Int32) (de : Nat → Int32) (df : Nat → Int32) (dc : Int32) (dp : Int32) (dk : Int32) {Q : Int32 → Prop} (hw : wn_X2_sweptPairs db de dc dp Q) (sz : Nat) :
    Met l yX2_sweptPairs wsX2_sweptPairs ({ frames := 1, cells := 0, slots := 0, locals := 23 } : Room) (va_Pc [.ref qr, .ref qd] (mPre G (w0_X2_sweptPairs G qr qro qrg qd qdb qde qdf ro rg db de df dc dp dk) sz)) (va_Qi (fun (r : Int32) (u : Unit) => Q r) (mBk G (va_A (w0_X2_sweptPairs G qr qro qrg qd qdb qde qdf ro rg db de df dc dp dk) sz) (fun (u : Unit) => (w0_X2_sweptPairs G qr qro qrg qd qdb qde qdf ro rg db de df dc dp dk))) (va_A (w0_X2_sweptPairs G qr qro qrg qd qdb qde qdf ro rg db de df dc dp dk) sz)) 0 0 (va_A (w0_X2_sweptPairs G qr qro qrg qd qdb qde qdf ro rg db de df dc dp dk) sz) := by
  refine ms_i (cc := cX2_sweptPairs) (maxL := 6) (ret := some .int) (post := (fun (r : Int32) (u : Unit) => Q r)) (w1 := (fun (u : Unit) => (w0_X2_sweptPairs G qr qro qrg qd qdb qde qdf ro rg db de df dc dp dk))) (by decide) rfl (Nat.le_of_ble_eq_true rfl) ?_ sz
  intro p e s m below meth c A ls H locs hx hb hr hml hown hts hlocks hK hG hP hD hS hA hl
  have hown : s.vm.findClass RX2 = some m.cls := hown
  have hl : lv_has ls 6 [(0, .ref qr), (1, .ref qd)] := hl
  have J7 : ∀ (n : Nat) (x2 : Int32) (x3 : Int32) (x4 : Int32) (H : Heap) (locs : List Loc) (ls : Array Slot), va_P (gD G) vwCl (w0_X2_sweptPairs G qr qro qrg qd qdb qde qdf ro rg db de df dc dp dk) H → va_D A (w0_X2_sweptPairs G qr qro qrg qd qdb qde qdf ro rg db de df dc dp dk) → va_S A s.heap H locs → lv_has ls 6 [(0, .ref qr), (1, .ref qd), (2, .int x2), (3, .int x3), (4, .int x4)] → wl_n_X2_sweptPairs_7 db de dc dp Q n x2 x3 x4 → W p l e ({ frames := 1, cells := 0, slots := 0, locals := 23 } : Room) s m ([.ref qr, .ref qd] : List Value).toArray below meth c H locs 0 0 (MQ below (va_Qi (fun (r : Int32) (u : Unit) => Q r) (mBk G A (fun (u : Unit) => (w0_X2_sweptPairs G qr qro qrg qd qdb qde qdf ro rg db de df dc dp dk))) A) ([.ref qr, .ref qd] : List Value).toArray s 0 0 A) (F0 m 7 ls []) := by
    intro n
    induction n with
    | zero => intro x2 x3 x4 H locs ls hP hD hS hl hw; exact False.elim hw
    | succ n ih =>
      intro x2 x3 x4 H locs ls hP hD hS hl hw
      rw [wl_n_X2_sweptPairs_7] at hw
      refine lv_iload hx hb dX2_sweptPairs_7 (lv_at hl 4 rfl) ?_
      refine lv_bipush (v := 96) hx hb dX2_sweptPairs_9 (by decide) ?_
      refine lv_icmp_ge (tgt := 59) hx hb dX2_sweptPairs_11 (by decide) (fun cd1 => ?_) (fun cd1 => ?_)
      · have hw := hw.1 cd1
        refine lv_iload_n hx hb dX2_sweptPairs_59 rfl (lv_at hl 2 rfl) ?_
        exact fin_i () hx hb hr hlocks hK hS hP hD hw dX2_sweptPairs_60
      · have hw := hw.2 cd1
        refine lv_iload_n hx hb dX2_sweptPairs_14 rfl (lv_at hl 3 rfl) ?_
        refine lv_aload_n hx hb dX2_sweptPairs_15 rfl (lv_at hl 1 rfl) ?_
        refine lv_iload hx hb dX2_sweptPairs_16 (lv_at hl 4 rfl) ?_
        refine kcR_i (kr_V [.int x3] ⟨hx, hb, hml, hown, hts⟩ (cn_X1_overAt l G qd qdb qde qdf db de df dc dp dk x4 hw H.size) (cwV 1 hts gX2_sweptPairs_X1_overAt rfl rfl rfl (by decide +kernel) ⟨Nat.le_of_ble_eq_true rfl, Nat.le_of_ble_eq_true rfl⟩) hK hG hP hD hS hA [3, 4, 5, 6] rfl rfl 1 3 rfl rfl rfl hl.1 rfl (Nat.le_of_ble_eq_true rfl) dX2_sweptPairs_18 ⟨Nat.le_of_ble_eq_true rfl, Nat.le_of_ble_eq_true rfl⟩) hP hD hS hA [3, 4, 5, 6] rfl (fun r2 u H locs hw hP hS => ?_)
        try dsimp only at hw
        refine lv_isub hx hb dX2_sweptPairs_21 ?_
        refine lv_istore_n (lv' := [(3, .int (x3 - r2)), (0, .ref qr), (1, .ref qd), (2, .int x2), (4, .int x4)]) hx hb dX2_sweptPairs_22 rfl hl (by decide) rfl (fun ls hl => ?_)
        refine lv_aload_n hx hb dX2_sweptPairs_23 rfl (lv_at hl 2 rfl) ?_
        refine lv_iload hx hb dX2_sweptPairs_24 (lv_at hl 4 rfl) ?_
        refine kcR_i (kr_V [] ⟨hx, hb, hml, hown, hts⟩ (cn_X1_beginningAt l G qd qdb qde qdf db de df dc dp dk x4 hw H.size) (cwV 1 hts gX2_sweptPairs_X1_beginningAt rfl rfl rfl (by decide +kernel) ⟨Nat.le_of_ble_eq_true rfl, Nat.le_of_ble_eq_true rfl⟩) hK hG hP hD hS hA [3, 4, 5, 6] rfl rfl 1 3 rfl rfl rfl hl.1 rfl (Nat.le_of_ble_eq_true rfl) dX2_sweptPairs_26 ⟨Nat.le_of_ble_eq_true rfl, Nat.le_of_ble_eq_true rfl⟩) hP hD hS hA [3, 4, 5, 6] rfl (fun r3 u H locs hw hP hS => ?_)
        try dsimp only at hw
        refine lv_istore (lv' := [(5, .int r3), (3, .int (x3 - r2)), (0, .ref qr), (1, .ref qd), (2, .int x2), (4, .int x4)]) hx hb dX2_sweptPairs_29 hl (by decide) rfl (fun ls hl => ?_)
        refine lv_iload_n hx hb dX2_sweptPairs_31 rfl (lv_at hl 4 rfl) ?_
        refine lv_iload hx hb dX2_sweptPairs_32 (lv_at hl 0 rfl) ?_
        refine lv_iload_n hx hb dX2_sweptPairs_34 rfl (lv_at hl 1 rfl) ?_
        refine lv_imul hx hb dX2_sweptPairs_35 ?_
        refine lv_iload hx hb dX2_sweptPairs_36 (lv_at hl 0 rfl) ?_
        refine lv_iload hx hb dX2_sweptPairs_38 (lv_at hl 0 rfl) ?_
        refine lv_iconst (v := 1) hx hb dX2_sweptPairs_40 (by decide) ?_
        refine lv_isub hx hb dX2_sweptPairs_41 ?_
        refine lv_imul hx hb dX2_sweptPairs_42 ?_
        refine lv_iconst (v := 2) hx hb dX2_sweptPairs_43 (by decide) ?_
        refine lv_idiv hx hb dX2_sweptPairs_44 (by decide) ?_
        refine lv_iadd hx hb dX2_sweptPairs_45 ?_
        refine lv_iadd hx hb dX2_sweptPairs_46 ?_
        refine lv_topi (fun v4 ev4 => ?_)
        have hw := hw v4 ev4
        refine lv_istore_n (lv' := [(2, .int v4), (5, .int r3), (3, .int (x3 - r2)), (0, .ref qr), (1, .ref qd), (4, .int x4)]) hx hb dX2_sweptPairs_47 rfl hl (by decide) rfl (fun ls hl => ?_)
        refine lv_iload_n hx hb dX2_sweptPairs_48 rfl (lv_at hl 2 rfl) ?_
        refine lv_iload hx hb dX2_sweptPairs_49 (lv_at hl 1 rfl) ?_
        refine lv_iadd hx hb dX2_sweptPairs_51 ?_
        refine lv_istore_n (lv' := [(3, .int ((x3 - r2) + r3)), (2, .int v4), (5, .int r3), (0, .ref qr), (1, .ref qd), (4, .int x4)]) hx hb dX2_sweptPairs_52 rfl hl (by decide) rfl (fun ls hl => ?_)
        refine lv_iinc (v := (x4 + 1)) (lv' := [(4, .int (x4 + 1)), (3, .int ((x3 - r2) + r3)), (2, .int v4), (5, .int r3), (0, .ref qr), (1, .ref qd)]) hx hb dX2_sweptPairs_53 hl (k := 5) rfl rfl (by decide) rfl (fun ls hl => ?_)
        refine lv_goto (tgt := 7) hx hb dX2_sweptPairs_56 (by decide) ?_
        exact ih v4 ((x3 - r2) + r3) (x4 + 1) _ _ _ hP hD hS (lv_sub hl [4, 5, 2, 1, 0] rfl) hw
  unfold wn_X2_sweptPairs at hw
  refine lv_iconst (v := 0) hx hb dX2_sweptPairs_0 (by decide) ?_
  refine lv_istore_n (lv' := [(2, .int (0 : Int32)), (0, .ref qr), (1, .ref qd)]) hx hb dX2_sweptPairs_1 rfl hl (by decide) rfl (fun ls hl => ?_)
  refine lv_iconst (v := 0) hx hb dX2_sweptPairs_2 (by decide) ?_
  refine lv_istore_n (lv' := [(3, .int (0 : Int32)), (2, .int (0 : Int32)), (0, .ref qr), (1, .ref qd)]) hx hb dX2_sweptPairs_3 rfl hl (by decide) rfl (fun ls hl => ?_)
  refine lv_iconst (v := 0) hx hb dX2_sweptPairs_4 (by decide) ?_
  refine lv_istore (lv' := [(4, .int (0 : Int32)), (3, .int (0 : Int32)), (2, .int (0 : Int32)), (0, .ref qr), (1, .ref qd)]) hx hb dX2_sweptPairs_5 hl (by decide) rfl (fun ls hl => ?_)
  obtain ⟨n7, hw⟩ := hw
  exact J7 n7 (0 : Int32) (0 : Int32) (0 : Int32) _ _ _ hP hD hS (lv_sub hl [3, 4, 2, 1, 0] rfl) hw

abbrev w0_X2_sweptRooms (G : mG) (qr : Nat) (qro : Nat) (qrg : Nat) (qd : Nat) (qdb : Nat) (qde : Nat) (qdf : Nat) (ro : Nat → Int32) (rg : Nat → Int32) (db : Nat → Int32) (de : Nat → Int32) (df : Nat → Int32) (dc : Int32) (dp : Int32) (dk : Int32) : va_W := [(qr, .inr (2, [.ref qro, .ref qrg])), (qro, .inl (gI G, (14, .inl ro))), (qrg, .inl (gI G, (14, .inl rg))), (qd, .inr (1, [.ref qdb, .ref qde, .ref qdf, .int dc, .int dp, .int dk])), (qdb, .inl (gI G, (14, .inl db))), (qde, .inl (gI G, (14, .inl de))), (qdf, .inl (gI G, (14, .inl df)))]
set_option maxRecDepth 100000 in
theorem k_X2_sweptRooms_m27 : Cond.methodLink RX2 27 Lib.Math.max.name ∈ wsX2_sweptRooms := by decide +kernel
set_option maxRecDepth 100000 in
theorem k_X2_sweptRooms_mst : Cond.static Lib.Math.max.name ∈ wsX2_sweptRooms := by decide +kernel
set_option maxRecDepth 100000 in
theorem k_X2_sweptRooms_min : Cond.initialized "java/lang/Math" ∈ wsX2_sweptRooms := by decide +kernel
set_option maxRecDepth 100000 in
theorem k_X2_sweptRooms_mco : Cond.code Lib.Math.max.name Lib.Math.max.code 2 (some .int) ∈ wsX2_sweptRooms := by decide +kernel
set_option maxHeartbeats 8000000 in
set_option maxRecDepth 100000 in
theorem cn_X2_sweptRooms (l : Launch) (G : mG) (qr : Nat) (qro : Nat) (qrg : Nat) (qd : Nat) (qdb : Nat) (qde : Nat) (qdf : Nat) (ro : Nat → Int32) (rg : Nat → Int32) (db : Nat → Int32) (de : Nat → Int32) (df : Nat → Int32) (dc : Int32) (dp : Int32) (dk : Int32) {Q : Int32 → Prop} (hw : wn_X2_sweptRooms db de dc dp Q) (sz : Nat) :
    Met l yX2_sweptRooms wsX2_sweptRooms ({ frames := 1, cells := 0, slots := 0, locals := 23 } : Room) (va_Pc [.ref qr, .ref qd] (mPre G (w0_X2_sweptRooms G qr qro qrg qd qdb qde qdf ro rg db de df dc dp dk) sz)) (va_Qi (fun (r : Int32) (u : Unit) => Q r) (mBk G (va_A (w0_X2_sweptRooms G qr qro qrg qd qdb qde qdf ro rg db de df dc dp dk) sz) (fun (u : Unit) => (w0_X2_sweptRooms G qr qro qrg qd qdb qde qdf ro rg db de df dc dp dk))) (va_A (w0_X2_sweptRooms G qr qro qrg qd qdb qde qdf ro rg db de df dc dp dk) sz)) 0 0 (va_A (w0_X2_sweptRooms G qr qro qrg qd qdb qde qdf ro rg db de df dc dp dk) sz) := by
  refine ms_i (cc := cX2_sweptRooms) (maxL := 5) (ret := some .int) (post := (fun (r : Int32) (u : Unit) => Q r)) (w1 := (fun (u : Unit) => (w0_X2_sweptRooms G qr qro qrg qd qdb qde qdf ro rg db de df dc dp dk))) (by decide) rfl (Nat.le_of_ble_eq_true rfl) ?_ sz
  intro p e s m below meth c A ls H locs hx hb hr hml hown hts hlocks hK hG hP hD hS hA hl
  have hown : s.vm.findClass RX2 = some m.cls := hown
  have hl : lv_has ls 5 [(0, .ref qr), (1, .ref qd)] := hl
  have J7 : ∀ (n : Nat) (x2 : Int32) (x3 : Int32) (x4 : Int32) (H : Heap) (locs : List Loc) (ls : Array Slot), va_P (gD G) vwCl (w0_X2_sweptRooms G qr qro qrg qd qdb qde qdf ro rg db de df dc dp dk) H → va_D A (w0_X2_sweptRooms G qr qro qrg qd qdb qde qdf ro rg db de df dc dp dk) → va_S A s.heap H locs → lv_has ls 5 [(0, .ref qr), (1, .ref qd), (2, .int x2), (3, .int x3), (4, .int x4)] → wl_n_X2_sweptRooms_7 db de dc dp Q n x2 x3 x4 → W p l e ({ frames := 1, cells := 0, slots := 0, locals := 23 } : Room) s m ([.ref qr, .ref qd] : List Value).toArray below meth c H locs 0 0 (MQ below (va_Qi (fun (r : Int32) (u : Unit) => Q r) (mBk G A (fun (u : Unit) => (w0_X2_sweptRooms G qr qro qrg qd qdb qde qdf ro rg db de df dc dp dk))) A) ([.ref qr, .ref qd] : List Value).toArray s 0 0 A) (F0 m 7 ls []) := by
    intro n
    induction n with
    | zero => intro x2 x3 x4 H locs ls hP hD hS hl hw; exact False.elim hw
    | succ n ih =>
      intro x2 x3 x4 H locs ls hP hD hS hl hw
      rw [wl_n_X2_sweptRooms_7] at hw
      refine lv_iload hx hb dX2_sweptRooms_7 (lv_at hl 4 rfl) ?_
      refine lv_bipush (v := 96) hx hb dX2_sweptRooms_9 (by decide) ?_
      refine lv_icmp_ge (tgt := 42) hx hb dX2_sweptRooms_11 (by decide) (fun cd1 => ?_) (fun cd1 => ?_)
      · have hw := hw.1 cd1
        refine lv_iload_n hx hb dX2_sweptRooms_42 rfl (lv_at hl 2 rfl) ?_
        exact fin_i () hx hb hr hlocks hK hS hP hD hw dX2_sweptRooms_43
      · have hw := hw.2 cd1
        refine lv_iload_n hx hb dX2_sweptRooms_14 rfl (lv_at hl 3 rfl) ?_
        refine lv_aload_n hx hb dX2_sweptRooms_15 rfl (lv_at hl 1 rfl) ?_
        refine lv_iload hx hb dX2_sweptRooms_16 (lv_at hl 4 rfl) ?_
        refine kcR_i (kr_V [.int x3] ⟨hx, hb, hml, hown, hts⟩ (cn_X1_beginningAt l G qd qdb qde qdf db de df dc dp dk x4 hw H.size) (cwV 1 hts gX2_sweptRooms_X1_beginningAt rfl rfl rfl (by decide +kernel) ⟨Nat.le_of_ble_eq_true rfl, Nat.le_of_ble_eq_true rfl⟩) hK hG hP hD hS hA [3, 4, 5, 6] rfl rfl 1 3 rfl rfl rfl hl.1 rfl (Nat.le_of_ble_eq_true rfl) dX2_sweptRooms_18 ⟨Nat.le_of_ble_eq_true rfl, Nat.le_of_ble_eq_true rfl⟩) hP hD hS hA [3, 4, 5, 6] rfl (fun r2 u H locs hw hP hS => ?_)
        try dsimp only at hw
        refine lv_aload_n hx hb dX2_sweptRooms_21 rfl (lv_at hl 1 rfl) ?_
        refine lv_iload hx hb dX2_sweptRooms_22 (lv_at hl 4 rfl) ?_
        refine kcR_i (kr_V [.int r2, .int x3] ⟨hx, hb, hml, hown, hts⟩ (cn_X1_overAt l G qd qdb qde qdf db de df dc dp dk x4 hw H.size) (cwV 1 hts gX2_sweptRooms_X1_overAt rfl rfl rfl (by decide +kernel) ⟨Nat.le_of_ble_eq_true rfl, Nat.le_of_ble_eq_true rfl⟩) hK hG hP hD hS hA [3, 4, 5, 6] rfl rfl 1 3 rfl rfl rfl hl.1 rfl (Nat.le_of_ble_eq_true rfl) dX2_sweptRooms_24 ⟨Nat.le_of_ble_eq_true rfl, Nat.le_of_ble_eq_true rfl⟩) hP hD hS hA [3, 4, 5, 6] rfl (fun r3 u H locs hw hP hS => ?_)
        try dsimp only at hw
        refine lv_isub hx hb dX2_sweptRooms_27 ?_
        refine lv_iadd hx hb dX2_sweptRooms_28 ?_
        refine lv_istore_n (lv' := [(3, .int (x3 + (r2 - r3))), (0, .ref qr), (1, .ref qd), (2, .int x2), (4, .int x4)]) hx hb dX2_sweptRooms_29 rfl hl (by decide) rfl (fun ls hl => ?_)
        refine lv_iload_n hx hb dX2_sweptRooms_30 rfl (lv_at hl 3 rfl) ?_
        refine lv_iload_n hx hb dX2_sweptRooms_31 rfl (lv_at hl 0 rfl) ?_
        refine va_mmax hx hb (by rw [hml]; exact hl.1.symm) hown (hts _ k_X2_sweptRooms_m27) (hts _ k_X2_sweptRooms_mst) (hts _ k_X2_sweptRooms_min) (hts _ k_X2_sweptRooms_mco) (Nat.le_of_ble_eq_true rfl) (Nat.le_of_ble_eq_true rfl) (Nat.le_of_ble_eq_true rfl) (Nat.le_of_ble_eq_true rfl) dX2_sweptRooms_32 ?_
        refine lv_istore_n (lv' := [(2, .int (if x2 < (x3 + (r2 - r3)) then (x3 + (r2 - r3)) else x2)), (3, .int (x3 + (r2 - r3))), (0, .ref qr), (1, .ref qd), (4, .int x4)]) hx hb dX2_sweptRooms_35 rfl hl (by decide) rfl (fun ls hl => ?_)
        refine lv_iinc (v := (x4 + 1)) (lv' := [(4, .int (x4 + 1)), (2, .int (if x2 < (x3 + (r2 - r3)) then (x3 + (r2 - r3)) else x2)), (3, .int (x3 + (r2 - r3))), (0, .ref qr), (1, .ref qd)]) hx hb dX2_sweptRooms_36 hl (k := 4) rfl rfl (by decide) rfl (fun ls hl => ?_)
        refine lv_goto (tgt := 7) hx hb dX2_sweptRooms_39 (by decide) ?_
        exact ih (if x2 < (x3 + (r2 - r3)) then (x3 + (r2 - r3)) else x2) (x3 + (r2 - r3)) (x4 + 1) _ _ _ hP hD hS (lv_sub hl [3, 4, 1, 2, 0] rfl) hw
  unfold wn_X2_sweptRooms at hw
  refine lv_iconst (v := 0) hx hb dX2_sweptRooms_0 (by decide) ?_
  refine lv_istore_n (lv' := [(2, .int (0 : Int32)), (0, .ref qr), (1, .ref qd)]) hx hb dX2_sweptRooms_1 rfl hl (by decide) rfl (fun ls hl => ?_)
  refine lv_iconst (v := 0) hx hb dX2_sweptRooms_2 (by decide) ?_
  refine lv_istore_n (lv' := [(3, .int (0 : Int32)), (2, .int (0 : Int32)), (0, .ref qr), (1, .ref qd)]) hx hb dX2_sweptRooms_3 rfl hl (by decide) rfl (fun ls hl => ?_)
  refine lv_iconst (v := 0) hx hb dX2_sweptRooms_4 (by decide) ?_
  refine lv_istore (lv' := [(4, .int (0 : Int32)), (3, .int (0 : Int32)), (2, .int (0 : Int32)), (0, .ref qr), (1, .ref qd)]) hx hb dX2_sweptRooms_5 hl (by decide) rfl (fun ls hl => ?_)
  obtain ⟨n7, hw⟩ := hw
  exact J7 n7 (0 : Int32) (0 : Int32) (0 : Int32) _ _ _ hP hD hS (lv_sub hl [3, 4, 2, 1, 0] rfl) hw

abbrev w0_X2_lowestRoomFor (G : mG) (qr : Nat) (qro : Nat) (qrg : Nat) (qd : Nat) (qdb : Nat) (qde : Nat) (qdf : Nat) (ro : Nat → Int32) (rg : Nat → Int32) (db : Nat → Int32) (de : Nat → Int32) (df : Nat → Int32) (dc : Int32) (dp : Int32) (dk : Int32) : va_W := [(qr, .inr (2, [.ref qro, .ref qrg])), (qro, .inl (gI G, (14, .inl ro))), (qrg, .inl (gI G, (14, .inl rg))), (qd, .inr (1, [.ref qdb, .ref qde, .ref qdf, .int dc, .int dp, .int dk])), (qdb, .inl (gI G, (14, .inl db))), (qde, .inl (gI G, (14, .inl de))), (qdf, .inl (gI G, (14, .inl df)))]
set_option maxRecDepth 100000 in
theorem k_X2_lowestRoomFor_inX2 : ∀ w ∈ u_ws RX2 TX2 2, w ∈ wsX2_lowestRoomFor := by decide +kernel
set_option maxRecDepth 100000 in
theorem k_X2_lowestRoomFor_f9 : Cond.fieldLink RX2 9 "RehearsalRoom$Rooms" "order" "[I" ∈ wsX2_lowestRoomFor := by decide +kernel
set_option maxRecDepth 100000 in
theorem k_X2_lowestRoomFor_f15 : Cond.fieldLink RX2 15 "RehearsalRoom$Rooms" "given" "[I" ∈ wsX2_lowestRoomFor := by decide +kernel
set_option maxHeartbeats 8000000 in
set_option maxRecDepth 100000 in
theorem cn_X2_lowestRoomFor (l : Launch) (G : mG) (qr : Nat) (qro : Nat) (qrg : Nat) (qd : Nat) (qdb : Nat) (qde : Nat) (qdf : Nat) (ro : Nat → Int32) (rg : Nat → Int32) (db : Nat → Int32) (de : Nat → Int32) (df : Nat → Int32) (dc : Int32) (dp : Int32) (dk : Int32) (a2 : Int32) {Q : Int32 → Prop} (hw : wn_X2_lowestRoomFor ro rg db de dp a2 Q) (sz : Nat) :
    Met l yX2_lowestRoomFor wsX2_lowestRoomFor ({ frames := 2, cells := 0, slots := 0, locals := 46 } : Room) (va_Pc [.ref qr, .ref qd, .int a2] (mPre G (w0_X2_lowestRoomFor G qr qro qrg qd qdb qde qdf ro rg db de df dc dp dk) sz)) (va_Qi (fun (r : Int32) (u : Unit) => Q r) (mBk G (va_A (w0_X2_lowestRoomFor G qr qro qrg qd qdb qde qdf ro rg db de df dc dp dk) sz) (fun (u : Unit) => (w0_X2_lowestRoomFor G qr qro qrg qd qdb qde qdf ro rg db de df dc dp dk))) (va_A (w0_X2_lowestRoomFor G qr qro qrg qd qdb qde qdf ro rg db de df dc dp dk) sz)) 0 0 (va_A (w0_X2_lowestRoomFor G qr qro qrg qd qdb qde qdf ro rg db de df dc dp dk) sz) := by
  refine ms_i (cc := cX2_lowestRoomFor) (maxL := 5) (ret := some .int) (post := (fun (r : Int32) (u : Unit) => Q r)) (w1 := (fun (u : Unit) => (w0_X2_lowestRoomFor G qr qro qrg qd qdb qde qdf ro rg db de df dc dp dk))) (by decide) rfl (Nat.le_of_ble_eq_true rfl) ?_ sz
  intro p e s m below meth c A ls H locs hx hb hr hml hown hts hlocks hK hG hP hD hS hA hl
  have hown : s.vm.findClass RX2 = some m.cls := hown
  have hl : lv_has ls 5 [(0, .ref qr), (1, .ref qd), (2, .int a2)] := hl
  have J58 : ∀ (n : Nat) (x2 : Int32) (x3 : Int32) (x4 : Int32) (H : Heap) (locs : List Loc) (ls : Array Slot), va_P (gD G) vwCl (w0_X2_lowestRoomFor G qr qro qrg qd qdb qde qdf ro rg db de df dc dp dk) H → va_D A (w0_X2_lowestRoomFor G qr qro qrg qd qdb qde qdf ro rg db de df dc dp dk) → va_S A s.heap H locs → lv_has ls 5 [(0, .ref qr), (1, .ref qd), (2, .int x2), (3, .int x3), (4, .int x4)] → wl_n_X2_lowestRoomFor_58 ro rg db de dp Q n x2 x3 x4 → W p l e ({ frames := 2, cells := 0, slots := 0, locals := 46 } : Room) s m ([.ref qr, .ref qd, .int a2] : List Value).toArray below meth c H locs 0 0 (MQ below (va_Qi (fun (r : Int32) (u : Unit) => Q r) (mBk G A (fun (u : Unit) => (w0_X2_lowestRoomFor G qr qro qrg qd qdb qde qdf ro rg db de df dc dp dk))) A) ([.ref qr, .ref qd, .int a2] : List Value).toArray s 0 0 A) (F0 m 58 ls []) := by
    intro n
    induction n with
    | zero => intro x2 x3 x4 H locs ls hP hD hS hl hw; exact False.elim hw
    | succ n ih =>
      intro x2 x3 x4 H locs ls hP hD hS hl hw
      rw [wl_n_X2_lowestRoomFor_58] at hw
      refine lv_iload hx hb dX2_lowestRoomFor_58 (lv_at hl 4 rfl) ?_
      refine lv_iload_n hx hb dX2_lowestRoomFor_60 rfl (lv_at hl 2 rfl) ?_
      refine lv_icmp_ge (tgt := 79) hx hb dX2_lowestRoomFor_61 (by decide) (fun cd2 => ?_) (fun cd2 => ?_)
      · have hw := hw.1 cd2
        refine lv_iload hx hb dX2_lowestRoomFor_79 (lv_at hl 4 rfl) ?_
        exact fin_i () hx hb hr hlocks hK hS hP hD hw dX2_lowestRoomFor_81
      · have hw := hw.2 cd2
        refine lv_iload_n hx hb dX2_lowestRoomFor_64 rfl (lv_at hl 3 rfl) ?_
        refine lv_iload hx hb dX2_lowestRoomFor_65 (lv_at hl 4 rfl) ?_
        refine kcR_i (kr_SN [] ⟨hx, hb, hml, hown, hts⟩ (cn_X5_isIn l G x3 x4 hw H.size) ⟨(va_cnB 2 hts gX2_lowestRoomFor_X5_isIn_n59 rfl rfl rfl (hG.1 (RX2, 59, yX5_isIn) (by decide +kernel)) (hts (.initialized RX5) (by decide +kernel)) (by decide +kernel) ⟨Nat.le_of_ble_eq_true rfl, Nat.le_of_ble_eq_true rfl⟩), hts (.static yX5_isIn) (by decide +kernel)⟩ hK hG hP hD hS hA [] rfl rfl rfl hl.1 rfl (Nat.le_of_ble_eq_true rfl) dX2_lowestRoomFor_67 ⟨Nat.le_of_ble_eq_true rfl, Nat.le_of_ble_eq_true rfl⟩) hP hD hS hA [] rfl (fun r3 u H locs hw hP hS => ?_)
        try dsimp only at hw
        obtain ⟨hz_r3, hw⟩ := hw
        refine lv_if_eq (tgt := 79) hx hb dX2_lowestRoomFor_70 (by decide) (fun cd4 => ?_) (fun cd4 => ?_)
        · have hw := hw.1 cd4
          refine lv_iload hx hb dX2_lowestRoomFor_79 (lv_at hl 4 rfl) ?_
          exact fin_i () hx hb hr hlocks hK hS hP hD hw dX2_lowestRoomFor_81
        · have hw := hw.2 cd4
          refine lv_iinc (v := (x4 + 1)) (lv' := [(4, .int (x4 + 1)), (0, .ref qr), (1, .ref qd), (2, .int x2), (3, .int x3)]) hx hb dX2_lowestRoomFor_73 hl (k := 4) rfl rfl (by decide) rfl (fun ls hl => ?_)
          refine lv_goto (tgt := 58) hx hb dX2_lowestRoomFor_76 (by decide) ?_
          exact ih x2 x3 (x4 + 1) _ _ _ hP hD hS (lv_sub hl [1, 2, 3, 4, 0] rfl) hw
  have J5 : ∀ (n : Nat) (x2 : Int32) (x3 : Int32) (x4 : Int32) (H : Heap) (locs : List Loc) (ls : Array Slot), va_P (gD G) vwCl (w0_X2_lowestRoomFor G qr qro qrg qd qdb qde qdf ro rg db de df dc dp dk) H → va_D A (w0_X2_lowestRoomFor G qr qro qrg qd qdb qde qdf ro rg db de df dc dp dk) → va_S A s.heap H locs → lv_has ls 5 [(0, .ref qr), (1, .ref qd), (2, .int x2), (3, .int x3), (4, .int x4)] → wl_n_X2_lowestRoomFor_5 ro rg db de dp Q n x2 x3 x4 → W p l e ({ frames := 2, cells := 0, slots := 0, locals := 46 } : Room) s m ([.ref qr, .ref qd, .int a2] : List Value).toArray below meth c H locs 0 0 (MQ below (va_Qi (fun (r : Int32) (u : Unit) => Q r) (mBk G A (fun (u : Unit) => (w0_X2_lowestRoomFor G qr qro qrg qd qdb qde qdf ro rg db de df dc dp dk))) A) ([.ref qr, .ref qd, .int a2] : List Value).toArray s 0 0 A) (F0 m 5 ls []) := by
    intro n
    induction n with
    | zero => intro x2 x3 x4 H locs ls hP hD hS hl hw; exact False.elim hw
    | succ n ih =>
      intro x2 x3 x4 H locs ls hP hD hS hl hw
      rw [wl_n_X2_lowestRoomFor_5] at hw
      refine lv_iload hx hb dX2_lowestRoomFor_5 (lv_at hl 4 rfl) ?_
      refine lv_iload_n hx hb dX2_lowestRoomFor_7 rfl (lv_at hl 2 rfl) ?_
      refine lv_icmp_ge (tgt := 55) hx hb dX2_lowestRoomFor_8 (by decide) (fun cd1 => ?_) (fun cd1 => ?_)
      · have hw := hw.1 cd1
        refine lv_iconst (v := 0) hx hb dX2_lowestRoomFor_55 (by decide) ?_
        refine lv_istore (lv' := [(4, .int (0 : Int32)), (0, .ref qr), (1, .ref qd), (2, .int x2), (3, .int x3)]) hx hb dX2_lowestRoomFor_56 hl (by decide) rfl (fun ls hl => ?_)
        obtain ⟨n58, hw⟩ := hw
        exact J58 n58 x2 x3 (0 : Int32) _ _ _ hP hD hS (lv_sub hl [1, 2, 3, 4, 0] rfl) hw
      · have hw := hw.2 cd1
        refine lv_aload_n hx hb dX2_lowestRoomFor_11 rfl (lv_at hl 1 rfl) ?_
        refine lv_aload_n hx hb dX2_lowestRoomFor_12 rfl (lv_at hl 0 rfl) ?_
        refine va_get (D := gD G) (ci := 2) (v := .ref qro) (C := RX2) (T := TX2) (N := 2) hx hb hts k_X2_lowestRoomFor_inX2 hown hK hP 0 rfl rfl 0 (by decide) (hts _ k_X2_lowestRoomFor_f9) (fun _ h9 => h9) rfl dX2_lowestRoomFor_13 ?_
        refine lv_iload_n hx hb dX2_lowestRoomFor_16 rfl (lv_at hl 2 rfl) ?_
        obtain ⟨h5, hw⟩ := hw
        refine va_iald hx hb hK hP 1 0 rfl rfl h5 dX2_lowestRoomFor_17 ?_
        refine lv_aload_n hx hb dX2_lowestRoomFor_18 rfl (lv_at hl 0 rfl) ?_
        refine va_get (D := gD G) (ci := 2) (v := .ref qro) (C := RX2) (T := TX2) (N := 2) hx hb hts k_X2_lowestRoomFor_inX2 hown hK hP 0 rfl rfl 0 (by decide) (hts _ k_X2_lowestRoomFor_f9) (fun _ h9 => h9) rfl dX2_lowestRoomFor_19 ?_
        refine lv_iload hx hb dX2_lowestRoomFor_22 (lv_at hl 4 rfl) ?_
        obtain ⟨h6, hw⟩ := hw
        refine va_iald hx hb hK hP 1 0 rfl rfl h6 dX2_lowestRoomFor_24 ?_
        refine kcR_i (kr_V [] ⟨hx, hb, hml, hown, hts⟩ (cn_X1_clash l G qd qdb qde qdf db de df dc dp dk (ro x2.toNatClampNeg) (ro x4.toNatClampNeg) hw H.size) (cwV 2 hts gX2_lowestRoomFor_X1_clash rfl rfl rfl (by decide +kernel) ⟨Nat.le_of_ble_eq_true rfl, Nat.le_of_ble_eq_true rfl⟩) hK hG hP hD hS hA [3, 4, 5, 6] rfl rfl 1 3 rfl rfl rfl hl.1 rfl (Nat.le_of_ble_eq_true rfl) dX2_lowestRoomFor_25 ⟨Nat.le_of_ble_eq_true rfl, Nat.le_of_ble_eq_true rfl⟩) hP hD hS hA [3, 4, 5, 6] rfl (fun r7 u H locs hw hP hS => ?_)
        try dsimp only at hw
        obtain ⟨hz_r7, hw⟩ := hw
        refine lv_if_eq (tgt := 49) hx hb dX2_lowestRoomFor_28 (by decide) (fun cd8 => ?_) (fun cd8 => ?_)
        · have hw := hw.1 cd8
          refine lv_iinc (v := (x4 + 1)) (lv' := [(4, .int (x4 + 1)), (0, .ref qr), (1, .ref qd), (2, .int x2), (3, .int x3)]) hx hb dX2_lowestRoomFor_49 hl (k := 4) rfl rfl (by decide) rfl (fun ls hl => ?_)
          refine lv_goto (tgt := 5) hx hb dX2_lowestRoomFor_52 (by decide) ?_
          exact ih x2 x3 (x4 + 1) _ _ _ hP hD hS (lv_sub hl [1, 2, 3, 4, 0] rfl) hw
        · have hw := hw.2 cd8
          refine lv_iload_n hx hb dX2_lowestRoomFor_31 rfl (lv_at hl 3 rfl) ?_
          refine lv_aload_n hx hb dX2_lowestRoomFor_32 rfl (lv_at hl 0 rfl) ?_
          refine va_get (D := gD G) (ci := 2) (v := .ref qrg) (C := RX2) (T := TX2) (N := 2) hx hb hts k_X2_lowestRoomFor_inX2 hown hK hP 0 rfl rfl 1 (by decide) (hts _ k_X2_lowestRoomFor_f15) (fun _ h9 => h9) rfl dX2_lowestRoomFor_33 ?_
          refine lv_aload_n hx hb dX2_lowestRoomFor_36 rfl (lv_at hl 0 rfl) ?_
          refine va_get (D := gD G) (ci := 2) (v := .ref qro) (C := RX2) (T := TX2) (N := 2) hx hb hts k_X2_lowestRoomFor_inX2 hown hK hP 0 rfl rfl 0 (by decide) (hts _ k_X2_lowestRoomFor_f9) (fun _ h9 => h9) rfl dX2_lowestRoomFor_37 ?_
          refine lv_iload hx hb dX2_lowestRoomFor_40 (lv_at hl 4 rfl) ?_
          obtain ⟨h9, hw⟩ := hw
          refine va_iald hx hb hK hP 1 0 rfl rfl h9 dX2_lowestRoomFor_42 ?_
          obtain ⟨h10, hw⟩ := hw
          refine va_iald hx hb hK hP 2 0 rfl rfl h10 dX2_lowestRoomFor_43 ?_
          refine kcR_i (kr_SN [.int x3] ⟨hx, hb, hml, hown, hts⟩ (cn_X5_bit l G (rg (ro x4.toNatClampNeg).toNatClampNeg) hw H.size) ⟨(va_cnB 1 hts gX2_lowestRoomFor_X5_bit_n56 rfl rfl rfl (hG.1 (RX2, 56, yX5_bit) (by decide +kernel)) (hts (.initialized RX5) (by decide +kernel)) (by decide +kernel) ⟨Nat.le_of_ble_eq_true rfl, Nat.le_of_ble_eq_true rfl⟩), hts (.static yX5_bit) (by decide +kernel)⟩ hK hG hP hD hS hA [] rfl rfl rfl hl.1 rfl (Nat.le_of_ble_eq_true rfl) dX2_lowestRoomFor_44 ⟨Nat.le_of_ble_eq_true rfl, Nat.le_of_ble_eq_true rfl⟩) hP hD hS hA [] rfl (fun r11 u H locs hw hP hS => ?_)
          try dsimp only at hw
          refine lv_ior hx hb dX2_lowestRoomFor_47 ?_
          refine lv_istore_n (lv' := [(3, .int (x3 ||| r11)), (0, .ref qr), (1, .ref qd), (2, .int x2), (4, .int x4)]) hx hb dX2_lowestRoomFor_48 rfl hl (by decide) rfl (fun ls hl => ?_)
          refine lv_iinc (v := (x4 + 1)) (lv' := [(4, .int (x4 + 1)), (3, .int (x3 ||| r11)), (0, .ref qr), (1, .ref qd), (2, .int x2)]) hx hb dX2_lowestRoomFor_49 hl (k := 4) rfl rfl (by decide) rfl (fun ls hl => ?_)
          refine lv_goto (tgt := 5) hx hb dX2_lowestRoomFor_52 (by decide) ?_
          exact ih x2 (x3 ||| r11) (x4 + 1) _ _ _ hP hD hS (lv_sub hl [2, 3, 4, 1, 0] rfl) hw
  unfold wn_X2_lowestRoomFor at hw
  refine lv_iconst (v := 0) hx hb dX2_lowestRoomFor_0 (by decide) ?_
  refine lv_istore_n (lv' := [(3, .int (0 : Int32)), (0, .ref qr), (1, .ref qd), (2, .int a2)]) hx hb dX2_lowestRoomFor_1 rfl hl (by decide) rfl (fun ls hl => ?_)
  refine lv_iconst (v := 0) hx hb dX2_lowestRoomFor_2 (by decide) ?_
  refine lv_istore (lv' := [(4, .int (0 : Int32)), (3, .int (0 : Int32)), (0, .ref qr), (1, .ref qd), (2, .int a2)]) hx hb dX2_lowestRoomFor_3 hl (by decide) rfl (fun ls hl => ?_)
  obtain ⟨n5, hw⟩ := hw
  exact J5 n5 a2 (0 : Int32) (0 : Int32) _ _ _ hP hD hS (lv_sub hl [2, 3, 4, 1, 0] rfl) hw

abbrev w0_X2_giveAll (G : mG) (qr : Nat) (qro : Nat) (qrg : Nat) (qd : Nat) (qdb : Nat) (qde : Nat) (qdf : Nat) (ro : Nat → Int32) (rg : Nat → Int32) (db : Nat → Int32) (de : Nat → Int32) (df : Nat → Int32) (dc : Int32) (dp : Int32) (dk : Int32) : va_W := [(qr, .inr (2, [.ref qro, .ref qrg])), (qro, .inl (gI G, (14, .inl ro))), (qrg, .inl (gI G, (14, .inl rg))), (qd, .inr (1, [.ref qdb, .ref qde, .ref qdf, .int dc, .int dp, .int dk])), (qdb, .inl (gI G, (14, .inl db))), (qde, .inl (gI G, (14, .inl de))), (qdf, .inl (gI G, (14, .inl df)))]
set_option maxRecDepth 100000 in
theorem k_X2_giveAll_inX1 : ∀ w ∈ u_ws RX1 TX1 6, w ∈ wsX2_giveAll := by decide +kernel
set_option maxRecDepth 100000 in
theorem k_X2_giveAll_f41 : Cond.fieldLink RX2 41 "RehearsalRoom$Day" "begins" "[I" ∈ wsX2_giveAll := by decide +kernel
set_option maxRecDepth 100000 in
theorem k_X2_giveAll_f37 : Cond.fieldLink RX2 37 "RehearsalRoom$Day" "count" "I" ∈ wsX2_giveAll := by decide +kernel
set_option maxRecDepth 100000 in
theorem k_X2_giveAll_inX2 : ∀ w ∈ u_ws RX2 TX2 2, w ∈ wsX2_giveAll := by decide +kernel
set_option maxRecDepth 100000 in
theorem k_X2_giveAll_f9 : Cond.fieldLink RX2 9 "RehearsalRoom$Rooms" "order" "[I" ∈ wsX2_giveAll := by decide +kernel
set_option maxRecDepth 100000 in
theorem k_X2_giveAll_f15 : Cond.fieldLink RX2 15 "RehearsalRoom$Rooms" "given" "[I" ∈ wsX2_giveAll := by decide +kernel
set_option maxHeartbeats 8000000 in
set_option maxRecDepth 100000 in
theorem cn_X2_giveAll (l : Launch) (G : mG) (qr : Nat) (qro : Nat) (qrg : Nat) (qd : Nat) (qdb : Nat) (qde : Nat) (qdf : Nat) (ro : Nat → Int32) (rg : Nat → Int32) (db : Nat → Int32) (de : Nat → Int32) (df : Nat → Int32) (dc : Int32) (dp : Int32) (dk : Int32) {Q : (Nat → Int32) → (Nat → Int32) → Prop} (hw : wn_X2_giveAll ro rg db de dc dp Q) (sz : Nat) :
    Met l yX2_giveAll wsX2_giveAll ({ frames := 3, cells := 0, slots := 0, locals := 70 } : Room) (va_Pc [.ref qr, .ref qd] (mPre G (w0_X2_giveAll G qr qro qrg qd qdb qde qdf ro rg db de df dc dp dk) sz)) (va_Qv (fun (u : (Nat → Int32) × (Nat → Int32)) => Q u.1 u.2) (mBk G (va_A (w0_X2_giveAll G qr qro qrg qd qdb qde qdf ro rg db de df dc dp dk) sz) (fun (u : (Nat → Int32) × (Nat → Int32)) => (w0_X2_giveAll G qr qro qrg qd qdb qde qdf u.1 u.2 db de df dc dp dk))) (va_A (w0_X2_giveAll G qr qro qrg qd qdb qde qdf ro rg db de df dc dp dk) sz)) 0 0 (va_A (w0_X2_giveAll G qr qro qrg qd qdb qde qdf ro rg db de df dc dp dk) sz) := by
  refine ms_v (cc := cX2_giveAll) (maxL := 3) (ret := none) (post := (fun (u : (Nat → Int32) × (Nat → Int32)) => Q u.1 u.2)) (w1 := (fun (u : (Nat → Int32) × (Nat → Int32)) => (w0_X2_giveAll G qr qro qrg qd qdb qde qdf u.1 u.2 db de df dc dp dk))) (by decide) rfl (Nat.le_of_ble_eq_true rfl) ?_ sz
  intro p e s m below meth c A ls H locs hx hb hr hml hown hts hlocks hK hG hP hD hS hA hl
  have hown : s.vm.findClass RX2 = some m.cls := hown
  have hl : lv_has ls 3 [(0, .ref qr), (1, .ref qd)] := hl
  have J17 : ∀ (n : Nat) (ro : Nat → Int32) (rg : Nat → Int32) (x2 : Int32) (H : Heap) (locs : List Loc) (ls : Array Slot), va_P (gD G) vwCl (w0_X2_giveAll G qr qro qrg qd qdb qde qdf ro rg db de df dc dp dk) H → va_D A (w0_X2_giveAll G qr qro qrg qd qdb qde qdf ro rg db de df dc dp dk) → va_S A s.heap H locs → lv_has ls 3 [(0, .ref qr), (1, .ref qd), (2, .int x2)] → wl_n_X2_giveAll_17 db de dc dp Q n ro rg x2 → W p l e ({ frames := 3, cells := 0, slots := 0, locals := 70 } : Room) s m ([.ref qr, .ref qd] : List Value).toArray below meth c H locs 0 0 (MQ below (va_Qv (fun (u : (Nat → Int32) × (Nat → Int32)) => Q u.1 u.2) (mBk G A (fun (u : (Nat → Int32) × (Nat → Int32)) => (w0_X2_giveAll G qr qro qrg qd qdb qde qdf u.1 u.2 db de df dc dp dk))) A) ([.ref qr, .ref qd] : List Value).toArray s 0 0 A) (F0 m 17 ls []) := by
    intro n
    induction n with
    | zero => intro ro rg x2 H locs ls hP hD hS hl hw; exact False.elim hw
    | succ n ih =>
      intro ro rg x2 H locs ls hP hD hS hl hw
      rw [wl_n_X2_giveAll_17] at hw
      refine lv_iload_n hx hb dX2_giveAll_17 rfl (lv_at hl 2 rfl) ?_
      refine lv_aload_n hx hb dX2_giveAll_18 rfl (lv_at hl 1 rfl) ?_
      refine va_get (D := gD G) (ci := 1) (v := .int dc) (C := RX1) (T := TX1) (N := 6) hx hb hts k_X2_giveAll_inX1 hown hK hP 3 rfl rfl 3 (by decide) (hts _ k_X2_giveAll_f37) (fun _ h9 => h9) rfl dX2_giveAll_19 ?_
      refine lv_icmp_ge (tgt := 48) hx hb dX2_giveAll_22 (by decide) (fun cd2 => ?_) (fun cd2 => ?_)
      · have hw := hw.1 cd2
        exact fin_v (ro, rg) hx hb hr hlocks hK hS hP hD hw dX2_giveAll_48
      · have hw := hw.2 cd2
        refine lv_aload_n hx hb dX2_giveAll_25 rfl (lv_at hl 0 rfl) ?_
        refine va_get (D := gD G) (ci := 2) (v := .ref qrg) (C := RX2) (T := TX2) (N := 2) hx hb hts k_X2_giveAll_inX2 hown hK hP 0 rfl rfl 1 (by decide) (hts _ k_X2_giveAll_f15) (fun _ h9 => h9) rfl dX2_giveAll_26 ?_
        refine lv_aload_n hx hb dX2_giveAll_29 rfl (lv_at hl 0 rfl) ?_
        refine va_get (D := gD G) (ci := 2) (v := .ref qro) (C := RX2) (T := TX2) (N := 2) hx hb hts k_X2_giveAll_inX2 hown hK hP 0 rfl rfl 0 (by decide) (hts _ k_X2_giveAll_f9) (fun _ h9 => h9) rfl dX2_giveAll_30 ?_
        refine lv_iload_n hx hb dX2_giveAll_33 rfl (lv_at hl 2 rfl) ?_
        obtain ⟨h3, hw⟩ := hw
        refine va_iald hx hb hK hP 1 0 rfl rfl h3 dX2_giveAll_34 ?_
        refine lv_aload_n hx hb dX2_giveAll_35 rfl (lv_at hl 0 rfl) ?_
        refine lv_aload_n hx hb dX2_giveAll_36 rfl (lv_at hl 1 rfl) ?_
        refine lv_iload_n hx hb dX2_giveAll_37 rfl (lv_at hl 2 rfl) ?_
        refine kcR_i (kr_V [.int (ro x2.toNatClampNeg), .ref qrg] ⟨hx, hb, hml, hown, hts⟩ (cn_X2_lowestRoomFor l G qr qro qrg qd qdb qde qdf ro rg db de df dc dp dk x2 hw H.size) (cwV 2 hts gX2_giveAll_X2_lowestRoomFor rfl rfl rfl (by decide +kernel) ⟨Nat.le_of_ble_eq_true rfl, Nat.le_of_ble_eq_true rfl⟩) hK hG hP hD hS hA [0, 1, 2, 3, 4, 5, 6] rfl rfl 2 0 rfl rfl rfl hl.1 rfl (Nat.le_of_ble_eq_true rfl) dX2_giveAll_38 ⟨Nat.le_of_ble_eq_true rfl, Nat.le_of_ble_eq_true rfl⟩) hP hD hS hA [0, 1, 2, 3, 4, 5, 6] rfl (fun r4 u H locs hw hP hS => ?_)
        try dsimp only at hw
        obtain ⟨h5, hw⟩ := hw
        refine va_iast hx hb hK hP hD hS 2 0 rfl rfl h5 dX2_giveAll_41 (fun H locs hP hD hS => ?_)
        have hP : va_P (gD G) vwCl (w0_X2_giveAll G qr qro qrg qd qdb qde qdf ro (upd rg (ro x2.toNatClampNeg).toNatClampNeg r4) db de df dc dp dk) H := hP
        have hD : va_D A (w0_X2_giveAll G qr qro qrg qd qdb qde qdf ro (upd rg (ro x2.toNatClampNeg).toNatClampNeg r4) db de df dc dp dk) := hD
        refine lv_iinc (v := (x2 + 1)) (lv' := [(2, .int (x2 + 1)), (0, .ref qr), (1, .ref qd)]) hx hb dX2_giveAll_42 hl (k := 2) rfl rfl (by decide) rfl (fun ls hl => ?_)
        refine lv_goto (tgt := 17) hx hb dX2_giveAll_45 (by decide) ?_
        exact ih ro (upd rg (ro x2.toNatClampNeg).toNatClampNeg r4) (x2 + 1) _ _ _ hP hD hS (lv_sub hl [1, 2, 0] rfl) hw
  unfold wn_X2_giveAll at hw
  refine lv_aload_n hx hb dX2_giveAll_0 rfl (lv_at hl 1 rfl) ?_
  refine va_get (D := gD G) (ci := 1) (v := .ref qdb) (C := RX1) (T := TX1) (N := 6) hx hb hts k_X2_giveAll_inX1 hown hK hP 3 rfl rfl 0 (by decide) (hts _ k_X2_giveAll_f41) (fun _ h9 => h9) rfl dX2_giveAll_1 ?_
  refine lv_aload_n hx hb dX2_giveAll_4 rfl (lv_at hl 1 rfl) ?_
  refine va_get (D := gD G) (ci := 1) (v := .int dc) (C := RX1) (T := TX1) (N := 6) hx hb hts k_X2_giveAll_inX1 hown hK hP 3 rfl rfl 3 (by decide) (hts _ k_X2_giveAll_f37) (fun _ h9 => h9) rfl dX2_giveAll_5 ?_
  refine lv_aload_n hx hb dX2_giveAll_8 rfl (lv_at hl 0 rfl) ?_
  refine va_get (D := gD G) (ci := 2) (v := .ref qro) (C := RX2) (T := TX2) (N := 2) hx hb hts k_X2_giveAll_inX2 hown hK hP 0 rfl rfl 0 (by decide) (hts _ k_X2_giveAll_f9) (fun _ h9 => h9) rfl dX2_giveAll_9 ?_
  refine kc_v (kr_SN [] ⟨hx, hb, hml, hown, hts⟩ (cn_X5_orderBy l G qdb qro db ro dc hw H.size) ⟨(va_cnB 3 hts gX2_giveAll_X5_orderBy_n44 rfl rfl rfl (hG.1 (RX2, 44, yX5_orderBy) (by decide +kernel)) (hts (.initialized RX5) (by decide +kernel)) (by decide +kernel) ⟨Nat.le_of_ble_eq_true rfl, Nat.le_of_ble_eq_true rfl⟩), hts (.static yX5_orderBy) (by decide +kernel)⟩ hK hG hP hD hS hA [4, 1] rfl rfl rfl hl.1 rfl (Nat.le_of_ble_eq_true rfl) dX2_giveAll_12 ⟨Nat.le_of_ble_eq_true rfl, Nat.le_of_ble_eq_true rfl⟩) hP hD hS hA [4, 1] [0, 2, 3, 5, 6] rfl rfl rfl (by decide) (fun u H locs hw hP hD hS => ?_)
  obtain ⟨vv_1, rfl⟩ : ∃ z, z = u := ⟨_, rfl⟩
  try dsimp only at hw
  have hP := hP.sub (ws' := (w0_X2_giveAll G qr qro qrg qd qdb qde qdf vv_1 rg db de df dc dp dk)) [0, 6, 1, 2, 5, 3, 4] rfl
  have hD := hD.sub (ws' := (w0_X2_giveAll G qr qro qrg qd qdb qde qdf vv_1 rg db de df dc dp dk)) [0, 6, 1, 2, 5, 3, 4] rfl rfl
  refine lv_iconst (v := 0) hx hb dX2_giveAll_15 (by decide) ?_
  refine lv_istore_n (lv' := [(2, .int (0 : Int32)), (0, .ref qr), (1, .ref qd)]) hx hb dX2_giveAll_16 rfl hl (by decide) rfl (fun ls hl => ?_)
  obtain ⟨n17, hw⟩ := hw
  exact J17 n17 vv_1 rg (0 : Int32) _ _ _ hP hD hS (lv_sub hl [1, 2, 0] rfl) hw

abbrev w0_X2_givenRooms (G : mG) (qr : Nat) (qro : Nat) (qrg : Nat) (qd : Nat) (qdb : Nat) (qde : Nat) (qdf : Nat) (ro : Nat → Int32) (rg : Nat → Int32) (db : Nat → Int32) (de : Nat → Int32) (df : Nat → Int32) (dc : Int32) (dp : Int32) (dk : Int32) : va_W := [(qr, .inr (2, [.ref qro, .ref qrg])), (qro, .inl (gI G, (14, .inl ro))), (qrg, .inl (gI G, (14, .inl rg))), (qd, .inr (1, [.ref qdb, .ref qde, .ref qdf, .int dc, .int dp, .int dk])), (qdb, .inl (gI G, (14, .inl db))), (qde, .inl (gI G, (14, .inl de))), (qdf, .inl (gI G, (14, .inl df)))]
set_option maxRecDepth 100000 in
theorem k_X2_givenRooms_inX1 : ∀ w ∈ u_ws RX1 TX1 6, w ∈ wsX2_givenRooms := by decide +kernel
set_option maxRecDepth 100000 in
theorem k_X2_givenRooms_f37 : Cond.fieldLink RX2 37 "RehearsalRoom$Day" "count" "I" ∈ wsX2_givenRooms := by decide +kernel
set_option maxRecDepth 100000 in
theorem k_X2_givenRooms_inX2 : ∀ w ∈ u_ws RX2 TX2 2, w ∈ wsX2_givenRooms := by decide +kernel
set_option maxRecDepth 100000 in
theorem k_X2_givenRooms_f15 : Cond.fieldLink RX2 15 "RehearsalRoom$Rooms" "given" "[I" ∈ wsX2_givenRooms := by decide +kernel
set_option maxRecDepth 100000 in
theorem k_X2_givenRooms_m27 : Cond.methodLink RX2 27 Lib.Math.max.name ∈ wsX2_givenRooms := by decide +kernel
set_option maxRecDepth 100000 in
theorem k_X2_givenRooms_mst : Cond.static Lib.Math.max.name ∈ wsX2_givenRooms := by decide +kernel
set_option maxRecDepth 100000 in
theorem k_X2_givenRooms_min : Cond.initialized "java/lang/Math" ∈ wsX2_givenRooms := by decide +kernel
set_option maxRecDepth 100000 in
theorem k_X2_givenRooms_mco : Cond.code Lib.Math.max.name Lib.Math.max.code 2 (some .int) ∈ wsX2_givenRooms := by decide +kernel
set_option maxHeartbeats 8000000 in
set_option maxRecDepth 100000 in
theorem cn_X2_givenRooms (l : Launch) (G : mG) (qr : Nat) (qro : Nat) (qrg : Nat) (qd : Nat) (qdb : Nat) (qde : Nat) (qdf : Nat) (ro : Nat → Int32) (rg : Nat → Int32) (db : Nat → Int32) (de : Nat → Int32) (df : Nat → Int32) (dc : Int32) (dp : Int32) (dk : Int32) {Q : Int32 → (Nat → Int32) → (Nat → Int32) → Prop} (hw : wn_X2_givenRooms ro rg db de dc dp Q) (sz : Nat) :
    Met l yX2_givenRooms wsX2_givenRooms ({ frames := 4, cells := 0, slots := 0, locals := 92 } : Room) (va_Pc [.ref qr, .ref qd] (mPre G (w0_X2_givenRooms G qr qro qrg qd qdb qde qdf ro rg db de df dc dp dk) sz)) (va_Qi (fun (r : Int32) (u : (Nat → Int32) × (Nat → Int32)) => Q r u.1 u.2) (mBk G (va_A (w0_X2_givenRooms G qr qro qrg qd qdb qde qdf ro rg db de df dc dp dk) sz) (fun (u : (Nat → Int32) × (Nat → Int32)) => (w0_X2_givenRooms G qr qro qrg qd qdb qde qdf u.1 u.2 db de df dc dp dk))) (va_A (w0_X2_givenRooms G qr qro qrg qd qdb qde qdf ro rg db de df dc dp dk) sz)) 0 0 (va_A (w0_X2_givenRooms G qr qro qrg qd qdb qde qdf ro rg db de df dc dp dk) sz) := by
  refine ms_i (cc := cX2_givenRooms) (maxL := 4) (ret := some .int) (post := (fun (r : Int32) (u : (Nat → Int32) × (Nat → Int32)) => Q r u.1 u.2)) (w1 := (fun (u : (Nat → Int32) × (Nat → Int32)) => (w0_X2_givenRooms G qr qro qrg qd qdb qde qdf u.1 u.2 db de df dc dp dk))) (by decide) rfl (Nat.le_of_ble_eq_true rfl) ?_ sz
  intro p e s m below meth c A ls H locs hx hb hr hml hown hts hlocks hK hG hP hD hS hA hl
  have hown : s.vm.findClass RX2 = some m.cls := hown
  have hl : lv_has ls 4 [(0, .ref qr), (1, .ref qd)] := hl
  have J9 : ∀ (n : Nat) (ro : Nat → Int32) (rg : Nat → Int32) (x2 : Int32) (x3 : Int32) (H : Heap) (locs : List Loc) (ls : Array Slot), va_P (gD G) vwCl (w0_X2_givenRooms G qr qro qrg qd qdb qde qdf ro rg db de df dc dp dk) H → va_D A (w0_X2_givenRooms G qr qro qrg qd qdb qde qdf ro rg db de df dc dp dk) → va_S A s.heap H locs → lv_has ls 4 [(0, .ref qr), (1, .ref qd), (2, .int x2), (3, .int x3)] → wl_n_X2_givenRooms_9 db de dc dp Q n ro rg x2 x3 → W p l e ({ frames := 4, cells := 0, slots := 0, locals := 92 } : Room) s m ([.ref qr, .ref qd] : List Value).toArray below meth c H locs 0 0 (MQ below (va_Qi (fun (r : Int32) (u : (Nat → Int32) × (Nat → Int32)) => Q r u.1 u.2) (mBk G A (fun (u : (Nat → Int32) × (Nat → Int32)) => (w0_X2_givenRooms G qr qro qrg qd qdb qde qdf u.1 u.2 db de df dc dp dk))) A) ([.ref qr, .ref qd] : List Value).toArray s 0 0 A) (F0 m 9 ls []) := by
    intro n
    induction n with
    | zero => intro ro rg x2 x3 H locs ls hP hD hS hl hw; exact False.elim hw
    | succ n ih =>
      intro ro rg x2 x3 H locs ls hP hD hS hl hw
      rw [wl_n_X2_givenRooms_9] at hw
      refine lv_iload_n hx hb dX2_givenRooms_9 rfl (lv_at hl 3 rfl) ?_
      refine lv_aload_n hx hb dX2_givenRooms_10 rfl (lv_at hl 1 rfl) ?_
      refine va_get (D := gD G) (ci := 1) (v := .int dc) (C := RX1) (T := TX1) (N := 6) hx hb hts k_X2_givenRooms_inX1 hown hK hP 3 rfl rfl 3 (by decide) (hts _ k_X2_givenRooms_f37) (fun _ h9 => h9) rfl dX2_givenRooms_11 ?_
      refine lv_icmp_ge (tgt := 36) hx hb dX2_givenRooms_14 (by decide) (fun cd3 => ?_) (fun cd3 => ?_)
      · have hw := hw.1 cd3
        refine lv_iload_n hx hb dX2_givenRooms_36 rfl (lv_at hl 2 rfl) ?_
        exact fin_i (ro, rg) hx hb hr hlocks hK hS hP hD hw dX2_givenRooms_37
      · have hw := hw.2 cd3
        refine lv_iload_n hx hb dX2_givenRooms_17 rfl (lv_at hl 2 rfl) ?_
        refine lv_aload_n hx hb dX2_givenRooms_18 rfl (lv_at hl 0 rfl) ?_
        refine va_get (D := gD G) (ci := 2) (v := .ref qrg) (C := RX2) (T := TX2) (N := 2) hx hb hts k_X2_givenRooms_inX2 hown hK hP 0 rfl rfl 1 (by decide) (hts _ k_X2_givenRooms_f15) (fun _ h9 => h9) rfl dX2_givenRooms_19 ?_
        refine lv_iload_n hx hb dX2_givenRooms_22 rfl (lv_at hl 3 rfl) ?_
        obtain ⟨h4, hw⟩ := hw
        refine va_iald hx hb hK hP 2 0 rfl rfl h4 dX2_givenRooms_23 ?_
        refine lv_iconst (v := 1) hx hb dX2_givenRooms_24 (by decide) ?_
        refine lv_iadd hx hb dX2_givenRooms_25 ?_
        refine va_mmax hx hb (by rw [hml]; exact hl.1.symm) hown (hts _ k_X2_givenRooms_m27) (hts _ k_X2_givenRooms_mst) (hts _ k_X2_givenRooms_min) (hts _ k_X2_givenRooms_mco) (Nat.le_of_ble_eq_true rfl) (Nat.le_of_ble_eq_true rfl) (Nat.le_of_ble_eq_true rfl) (Nat.le_of_ble_eq_true rfl) dX2_givenRooms_26 ?_
        refine lv_topi (fun v5 ev5 => ?_)
        have hw := hw v5 ev5
        refine lv_istore_n (lv' := [(2, .int v5), (0, .ref qr), (1, .ref qd), (3, .int x3)]) hx hb dX2_givenRooms_29 rfl hl (by decide) rfl (fun ls hl => ?_)
        refine lv_iinc (v := (x3 + 1)) (lv' := [(3, .int (x3 + 1)), (2, .int v5), (0, .ref qr), (1, .ref qd)]) hx hb dX2_givenRooms_30 hl (k := 3) rfl rfl (by decide) rfl (fun ls hl => ?_)
        refine lv_goto (tgt := 9) hx hb dX2_givenRooms_33 (by decide) ?_
        exact ih ro rg v5 (x3 + 1) _ _ _ hP hD hS (lv_sub hl [2, 3, 1, 0] rfl) hw
  unfold wn_X2_givenRooms at hw
  refine lv_aload_n hx hb dX2_givenRooms_0 rfl (lv_at hl 0 rfl) ?_
  refine lv_aload_n hx hb dX2_givenRooms_1 rfl (lv_at hl 1 rfl) ?_
  refine kc_v (kr_V [] ⟨hx, hb, hml, hown, hts⟩ (cn_X2_giveAll l G qr qro qrg qd qdb qde qdf ro rg db de df dc dp dk hw H.size) (cwV 1 hts gX2_givenRooms_X2_giveAll rfl rfl rfl (by decide +kernel) ⟨Nat.le_of_ble_eq_true rfl, Nat.le_of_ble_eq_true rfl⟩) hK hG hP hD hS hA [0, 1, 2, 3, 4, 5, 6] rfl rfl 2 0 rfl rfl rfl hl.1 rfl (Nat.le_of_ble_eq_true rfl) dX2_givenRooms_2 ⟨Nat.le_of_ble_eq_true rfl, Nat.le_of_ble_eq_true rfl⟩) hP hD hS hA [0, 1, 2, 3, 4, 5, 6] [] rfl rfl rfl (by decide) (fun u H locs hw hP hD hS => ?_)
  obtain ⟨ro_1, rg_2⟩ := u
  try dsimp only at hw
  have hP := hP.sub (ws' := (w0_X2_givenRooms G qr qro qrg qd qdb qde qdf ro_1 rg_2 db de df dc dp dk)) [0, 1, 2, 3, 4, 5, 6] rfl
  have hD := hD.sub (ws' := (w0_X2_givenRooms G qr qro qrg qd qdb qde qdf ro_1 rg_2 db de df dc dp dk)) [0, 1, 2, 3, 4, 5, 6] rfl rfl
  refine lv_iconst (v := 0) hx hb dX2_givenRooms_5 (by decide) ?_
  refine lv_istore_n (lv' := [(2, .int (0 : Int32)), (0, .ref qr), (1, .ref qd)]) hx hb dX2_givenRooms_6 rfl hl (by decide) rfl (fun ls hl => ?_)
  refine lv_iconst (v := 0) hx hb dX2_givenRooms_7 (by decide) ?_
  refine lv_istore_n (lv' := [(3, .int (0 : Int32)), (2, .int (0 : Int32)), (0, .ref qr), (1, .ref qd)]) hx hb dX2_givenRooms_8 rfl hl (by decide) rfl (fun ls hl => ?_)
  obtain ⟨n9, hw⟩ := hw
  exact J9 n9 ro_1 rg_2 (0 : Int32) (0 : Int32) _ _ _ hP hD hS (lv_sub hl [2, 3, 1, 0] rfl) hw
