abbrev w0_X2_givenTo (G : mG) (qr : Nat) (qro : Nat) (qrg : Nat) (qd : Nat) (qdb : Nat) (qde : Nat) (qdf : Nat) (ro : Nat → Int32) (rg : Nat → Int32) (db : Nat → Int32) (de : Nat → Int32) (df : Nat → Int32) (dc : Int32) (dp : Int32) (dk : Int32) : va_W := [(qr, .inr (2, [.ref qro, .ref qrg])), (qro, .inl (gI G, (14, .inl ro))), (qrg, .inl (gI G, (14, .inl rg))), (qd, .inr (1, [.ref qdb, .ref qde, .ref qdf, .int dc, .int dp, .int dk])), (qdb, .inl (gI G, (14, .inl db))), (qde, .inl (gI G, (14, .inl de))), (qdf, .inl (gI G, (14, .inl df)))]
set_option maxRecDepth 100000 in
theorem k_X2_givenTo_inX2 : ∀ w ∈ u_ws RX2 TX2 2, w ∈ wsX2_givenTo := by decide +kernel
set_option maxRecDepth 100000 in
theorem k_X2_givenTo_f15 : Cond.fieldLink RX2 15 "RehearsalRoom$Rooms" "given" "[I" ∈ wsX2_givenTo := by decide +kernel
set_option maxHeartbeats 8000000 in
set_option maxRecDepth 100000 in
theorem cn_X2_givenTo (l : Launch) (G : mG) (qr : Nat) (qro : Nat) (qrg : Nat) (qd : Nat) (qdb : Nat) (qde : Nat) (qdf : Nat) (ro : Nat → Int32) (rg : Nat → Int32) (db : Nat → Int32) (de : Nat → Int32) (df : Nat → Int32) (dc : Int32) (dp : Int32) (dk : Int32) (a2 : Int32) {Q : Int32 → (Nat → Int32) → (Nat → Int32) → Prop} (hw : wn_X2_givenTo ro rg db de dc dp a2 Q) (sz : Nat) :
    Met l yX2_givenTo wsX2_givenTo ({ frames := 4, cells := 0, slots := 0, locals := 92 } : Room) (va_Pc [.ref qr, .ref qd, .int a2] (mPre G (w0_X2_givenTo G qr qro qrg qd qdb qde qdf ro rg db de df dc dp dk) sz)) (va_Qi (fun (r : Int32) (u : (Nat → Int32) × (Nat → Int32)) => Q r u.1 u.2) (mBk G (va_A (w0_X2_givenTo G qr qro qrg qd qdb qde qdf ro rg db de df dc dp dk) sz) (fun (u : (Nat → Int32) × (Nat → Int32)) => (w0_X2_givenTo G qr qro qrg qd qdb qde qdf u.1 u.2 db de df dc dp dk))) (va_A (w0_X2_givenTo G qr qro qrg qd qdb qde qdf ro rg db de df dc dp dk) sz)) 0 0 (va_A (w0_X2_givenTo G qr qro qrg qd qdb qde qdf ro rg db de df dc dp dk) sz) := by
  refine ms_i (cc := cX2_givenTo) (maxL := 3) (ret := some .int) (post := (fun (r : Int32) (u : (Nat → Int32) × (Nat → Int32)) => Q r u.1 u.2)) (w1 := (fun (u : (Nat → Int32) × (Nat → Int32)) => (w0_X2_givenTo G qr qro qrg qd qdb qde qdf u.1 u.2 db de df dc dp dk))) (by decide) rfl (Nat.le_of_ble_eq_true rfl) ?_ sz
  intro p e s m below meth c A ls H locs hx hb hr hml hown hts hlocks hK hG hP hD hS hA hl
  have hown : s.vm.findClass RX2 = some m.cls := hown
  have hl : lv_has ls 3 [(0, .ref qr), (1, .ref qd), (2, .int a2)] := hl
  unfold wn_X2_givenTo at hw
  refine lv_aload_n hx hb dX2_givenTo_0 rfl (lv_at hl 0 rfl) ?_
  refine lv_aload_n hx hb dX2_givenTo_1 rfl (lv_at hl 1 rfl) ?_
  refine kc_v (kr_V [] ⟨hx, hb, hml, hown, hts⟩ (cn_X2_giveAll l G qr qro qrg qd qdb qde qdf ro rg db de df dc dp dk hw H.size) (cwV 1 hts gX2_givenTo_X2_giveAll rfl rfl rfl (by decide +kernel) ⟨Nat.le_of_ble_eq_true rfl, Nat.le_of_ble_eq_true rfl⟩) hK hG hP hD hS hA [0, 1, 2, 3, 4, 5, 6] rfl rfl 2 0 rfl rfl rfl hl.1 rfl (Nat.le_of_ble_eq_true rfl) dX2_givenTo_2 ⟨Nat.le_of_ble_eq_true rfl, Nat.le_of_ble_eq_true rfl⟩) hP hD hS hA [0, 1, 2, 3, 4, 5, 6] [] rfl rfl rfl (by decide) (fun u H locs hw hP hD hS => ?_)
  obtain ⟨ro_1, rg_2⟩ := u
  try dsimp only at hw
  have hP := hP.sub (ws' := (w0_X2_givenTo G qr qro qrg qd qdb qde qdf ro_1 rg_2 db de df dc dp dk)) [0, 1, 2, 3, 4, 5, 6] rfl
  have hD := hD.sub (ws' := (w0_X2_givenTo G qr qro qrg qd qdb qde qdf ro_1 rg_2 db de df dc dp dk)) [0, 1, 2, 3, 4, 5, 6] rfl rfl
  refine lv_aload_n hx hb dX2_givenTo_5 rfl (lv_at hl 0 rfl) ?_
  refine va_get (D := gD G) (ci := 2) (v := .ref qrg) (C := RX2) (T := TX2) (N := 2) hx hb hts k_X2_givenTo_inX2 hown hK hP 0 rfl rfl 1 (by decide) (hts _ k_X2_givenTo_f15) (fun _ h9 => h9) rfl dX2_givenTo_6 ?_
  refine lv_iload_n hx hb dX2_givenTo_9 rfl (lv_at hl 2 rfl) ?_
  obtain ⟨h3, hw⟩ := hw
  refine va_iald hx hb hK hP 2 0 rfl rfl h3 dX2_givenTo_10 ?_
  exact fin_i (ro_1, rg_2) hx hb hr hlocks hK hS hP hD hw dX2_givenTo_11

abbrev w0_X3_save (G : mG) (qs : Nat) (qsa : Nat) (qs0 : Nat) (qs0b : Nat) (qs0e : Nat) (qs0f : Nat) (qs1 : Nat) (qs1b : Nat) (qs1e : Nat) (qs1f : Nat) (qs2 : Nat) (qs2b : Nat) (qs2e : Nat) (qs2f : Nat) (qs3 : Nat) (qs3b : Nat) (qs3e : Nat) (qs3f : Nat) (qs4 : Nat) (qs4b : Nat) (qs4e : Nat) (qs4f : Nat) (qs5 : Nat) (qs5b : Nat) (qs5e : Nat) (qs5f : Nat) (qd : Nat) (qdb : Nat) (qde : Nat) (qdf : Nat) (so : Int32) (sn : Int32) (sb : Nat → Nat → Int32) (se : Nat → Nat → Int32) (sf : Nat → Nat → Int32) (sc : Nat → Int32) (sp : Nat → Int32) (sk : Nat → Int32) (db : Nat → Int32) (de : Nat → Int32) (df : Nat → Int32) (dc : Int32) (dp : Int32) (dk : Int32) : va_W := [(qs, .inr (3, [.ref qsa, .int so, .int sn])), (qsa, .inl (gQ G, (6, .inr (.inr (.inr (.inr (g6 qs0 qs1 qs2 qs3 qs4 qs5))))))), (qs0, .inr (1, [.ref qs0b, .ref qs0e, .ref qs0f, .int (sc 0), .int (sp 0), .int (sk 0)])), (qs0b, .inl (gI G, (14, .inl (sb 0)))), (qs0e, .inl (gI G, (14, .inl (se 0)))), (qs0f, .inl (gI G, (14, .inl (sf 0)))), (qs1, .inr (1, [.ref qs1b, .ref qs1e, .ref qs1f, .int (sc 1), .int (sp 1), .int (sk 1)])), (qs1b, .inl (gI G, (14, .inl (sb 1)))), (qs1e, .inl (gI G, (14, .inl (se 1)))), (qs1f, .inl (gI G, (14, .inl (sf 1)))), (qs2, .inr (1, [.ref qs2b, .ref qs2e, .ref qs2f, .int (sc 2), .int (sp 2), .int (sk 2)])), (qs2b, .inl (gI G, (14, .inl (sb 2)))), (qs2e, .inl (gI G, (14, .inl (se 2)))), (qs2f, .inl (gI G, (14, .inl (sf 2)))), (qs3, .inr (1, [.ref qs3b, .ref qs3e, .ref qs3f, .int (sc 3), .int (sp 3), .int (sk 3)])), (qs3b, .inl (gI G, (14, .inl (sb 3)))), (qs3e, .inl (gI G, (14, .inl (se 3)))), (qs3f, .inl (gI G, (14, .inl (sf 3)))), (qs4, .inr (1, [.ref qs4b, .ref qs4e, .ref qs4f, .int (sc 4), .int (sp 4), .int (sk 4)])), (qs4b, .inl (gI G, (14, .inl (sb 4)))), (qs4e, .inl (gI G, (14, .inl (se 4)))), (qs4f, .inl (gI G, (14, .inl (sf 4)))), (qs5, .inr (1, [.ref qs5b, .ref qs5e, .ref qs5f, .int (sc 5), .int (sp 5), .int (sk 5)])), (qs5b, .inl (gI G, (14, .inl (sb 5)))), (qs5e, .inl (gI G, (14, .inl (se 5)))), (qs5f, .inl (gI G, (14, .inl (sf 5)))), (qd, .inr (1, [.ref qdb, .ref qde, .ref qdf, .int dc, .int dp, .int dk])), (qdb, .inl (gI G, (14, .inl db))), (qde, .inl (gI G, (14, .inl de))), (qdf, .inl (gI G, (14, .inl df)))]
set_option maxRecDepth 100000 in
theorem k_X3_save_inX3 : ∀ w ∈ u_ws RX3 TX3 3, w ∈ wsX3_save := by decide +kernel
set_option maxRecDepth 100000 in
theorem k_X3_save_f21 : Cond.fieldLink RX3 21 "RehearsalRoom$SavedDays" "count" "I" ∈ wsX3_save := by decide +kernel
set_option maxRecDepth 100000 in
theorem k_X3_save_f11 : Cond.fieldLink RX3 11 "RehearsalRoom$SavedDays" "days" "[LRehearsalRoom$Day;" ∈ wsX3_save := by decide +kernel
set_option maxRecDepth 100000 in
theorem k_X3_save_f17 : Cond.fieldLink RX3 17 "RehearsalRoom$SavedDays" "oldest" "I" ∈ wsX3_save := by decide +kernel
set_option maxHeartbeats 8000000 in
set_option maxRecDepth 100000 in
theorem cn_X3_save (l : Launch) (G : mG) (qs : Nat) (qsa : Nat) (qs0 : Nat) (qs0b : Nat) (qs0e : Nat) (qs0f : Nat) (qs1 : Nat) (qs1b : Nat) (qs1e : Nat) (qs1f : Nat) (qs2 : Nat) (qs2b : Nat) (qs2e : Nat) (qs2f : Nat) (qs3 : Nat) (qs3b : Nat) (qs3e : Nat) (qs3f : Nat) (qs4 : Nat) (qs4b : Nat) (qs4e : Nat) (qs4f : Nat) (qs5 : Nat) (qs5b : Nat) (qs5e : Nat) (qs5f : Nat) (qd : Nat) (qdb : Nat) (qde : Nat) (qdf : Nat) (so : Int32) (sn : Int32) (sb : Nat → Nat → Int32) (se : Nat → Nat → Int32) (sf : Nat → Nat → Int32) (sc : Nat → Int32) (sp : Nat → Int32) (sk : Nat → Int32) (db : Nat → Int32) (de : Nat → Int32) (df : Nat → Int32) (dc : Int32) (dp : Int32) (dk : Int32) {Q : Int32 → Int32 → (Nat → Nat → Int32) → (Nat → Nat → Int32) → (Nat → Nat → Int32) → (Nat → Int32) → (Nat → Int32) → (Nat → Int32) → Prop} (hw : wn_X3_save so sn sb se sf sc sp sk db de df dc dp dk Q) (sz : Nat) :
    Met l yX3_save wsX3_save ({ frames := 2, cells := 0, slots := 0, locals := 45 } : Room) (va_Pc [.ref qs, .ref qd] (mPre G (w0_X3_save G qs qsa qs0 qs0b qs0e qs0f qs1 qs1b qs1e qs1f qs2 qs2b qs2e qs2f qs3 qs3b qs3e qs3f qs4 qs4b qs4e qs4f qs5 qs5b qs5e qs5f qd qdb qde qdf so sn sb se sf sc sp sk db de df dc dp dk) sz)) (va_Qv (fun (u : Int32 × Int32 × (Nat → Nat → Int32) × (Nat → Nat → Int32) × (Nat → Nat → Int32) × (Nat → Int32) × (Nat → Int32) × (Nat → Int32)) => Q u.1 u.2.1 u.2.2.1 u.2.2.2.1 u.2.2.2.2.1 u.2.2.2.2.2.1 u.2.2.2.2.2.2.1 u.2.2.2.2.2.2.2) (mBk G (va_A (w0_X3_save G qs qsa qs0 qs0b qs0e qs0f qs1 qs1b qs1e qs1f qs2 qs2b qs2e qs2f qs3 qs3b qs3e qs3f qs4 qs4b qs4e qs4f qs5 qs5b qs5e qs5f qd qdb qde qdf so sn sb se sf sc sp sk db de df dc dp dk) sz) (fun (u : Int32 × Int32 × (Nat → Nat → Int32) × (Nat → Nat → Int32) × (Nat → Nat → Int32) × (Nat → Int32) × (Nat → Int32) × (Nat → Int32)) => (w0_X3_save G qs qsa qs0 qs0b qs0e qs0f qs1 qs1b qs1e qs1f qs2 qs2b qs2e qs2f qs3 qs3b qs3e qs3f qs4 qs4b qs4e qs4f qs5 qs5b qs5e qs5f qd qdb qde qdf u.1 u.2.1 u.2.2.1 u.2.2.2.1 u.2.2.2.2.1 u.2.2.2.2.2.1 u.2.2.2.2.2.2.1 u.2.2.2.2.2.2.2 db de df dc dp dk))) (va_A (w0_X3_save G qs qsa qs0 qs0b qs0e qs0f qs1 qs1b qs1e qs1f qs2 qs2b qs2e qs2f qs3 qs3b qs3e qs3f qs4 qs4b qs4e qs4f qs5 qs5b qs5e qs5f qd qdb qde qdf so sn sb se sf sc sp sk db de df dc dp dk) sz)) 0 0 (va_A (w0_X3_save G qs qsa qs0 qs0b qs0e qs0f qs1 qs1b qs1e qs1f qs2 qs2b qs2e qs2f qs3 qs3b qs3e qs3f qs4 qs4b qs4e qs4f qs5 qs5b qs5e qs5f qd qdb qde qdf so sn sb se sf sc sp sk db de df dc dp dk) sz) := by
  refine ms_v (cc := cX3_save) (maxL := 2) (ret := none) (post := (fun (u : Int32 × Int32 × (Nat → Nat → Int32) × (Nat → Nat → Int32) × (Nat → Nat → Int32) × (Nat → Int32) × (Nat → Int32) × (Nat → Int32)) => Q u.1 u.2.1 u.2.2.1 u.2.2.2.1 u.2.2.2.2.1 u.2.2.2.2.2.1 u.2.2.2.2.2.2.1 u.2.2.2.2.2.2.2)) (w1 := (fun (u : Int32 × Int32 × (Nat → Nat → Int32) × (Nat → Nat → Int32) × (Nat → Nat → Int32) × (Nat → Int32) × (Nat → Int32) × (Nat → Int32)) => (w0_X3_save G qs qsa qs0 qs0b qs0e qs0f qs1 qs1b qs1e qs1f qs2 qs2b qs2e qs2f qs3 qs3b qs3e qs3f qs4 qs4b qs4e qs4f qs5 qs5b qs5e qs5f qd qdb qde qdf u.1 u.2.1 u.2.2.1 u.2.2.2.1 u.2.2.2.2.1 u.2.2.2.2.2.1 u.2.2.2.2.2.2.1 u.2.2.2.2.2.2.2 db de df dc dp dk))) (by decide) rfl (Nat.le_of_ble_eq_true rfl) ?_ sz
  intro p e s m below meth c A ls H locs hx hb hr hml hown hts hlocks hK hG hP hD hS hA hl
  have hown : s.vm.findClass RX3 = some m.cls := hown
  have hl : lv_has ls 2 [(0, .ref qs), (1, .ref qd)] := hl
  have J32 : ∀ (so : Int32) (sn : Int32) (sb : Nat → Nat → Int32) (se : Nat → Nat → Int32) (sf : Nat → Nat → Int32) (sc : Nat → Int32) (sp : Nat → Int32) (sk : Nat → Int32) (H : Heap) (locs : List Loc) (ls : Array Slot), va_P (gD G) vwCl (w0_X3_save G qs qsa qs0 qs0b qs0e qs0f qs1 qs1b qs1e qs1f qs2 qs2b qs2e qs2f qs3 qs3b qs3e qs3f qs4 qs4b qs4e qs4f qs5 qs5b qs5e qs5f qd qdb qde qdf so sn sb se sf sc sp sk db de df dc dp dk) H → va_D A (w0_X3_save G qs qsa qs0 qs0b qs0e qs0f qs1 qs1b qs1e qs1f qs2 qs2b qs2e qs2f qs3 qs3b qs3e qs3f qs4 qs4b qs4e qs4f qs5 qs5b qs5e qs5f qd qdb qde qdf so sn sb se sf sc sp sk db de df dc dp dk) → va_S A s.heap H locs → lv_has ls 2 [(0, .ref qs), (1, .ref qd)] → wj_n_X3_save_32 db de df dc dp dk Q so sn sb se sf sc sp sk → W p l e ({ frames := 2, cells := 0, slots := 0, locals := 45 } : Room) s m ([.ref qs, .ref qd] : List Value).toArray below meth c H locs 0 0 (MQ below (va_Qv (fun (u : Int32 × Int32 × (Nat → Nat → Int32) × (Nat → Nat → Int32) × (Nat → Nat → Int32) × (Nat → Int32) × (Nat → Int32) × (Nat → Int32)) => Q u.1 u.2.1 u.2.2.1 u.2.2.2.1 u.2.2.2.2.1 u.2.2.2.2.2.1 u.2.2.2.2.2.2.1 u.2.2.2.2.2.2.2) (mBk G A (fun (u : Int32 × Int32 × (Nat → Nat → Int32) × (Nat → Nat → Int32) × (Nat → Nat → Int32) × (Nat → Int32) × (Nat → Int32) × (Nat → Int32)) => (w0_X3_save G qs qsa qs0 qs0b qs0e qs0f qs1 qs1b qs1e qs1f qs2 qs2b qs2e qs2f qs3 qs3b qs3e qs3f qs4 qs4b qs4e qs4f qs5 qs5b qs5e qs5f qd qdb qde qdf u.1 u.2.1 u.2.2.1 u.2.2.2.1 u.2.2.2.2.1 u.2.2.2.2.2.1 u.2.2.2.2.2.2.1 u.2.2.2.2.2.2.2 db de df dc dp dk))) A) ([.ref qs, .ref qd] : List Value).toArray s 0 0 A) (F0 m 32 ls []) := by
    intro so sn sb se sf sc sp sk H locs ls hP hD hS hl hw
    unfold wj_n_X3_save_32 at hw
    refine lv_aload_n hx hb dX3_save_32 rfl (lv_at hl 0 rfl) ?_
    refine va_get (D := gD G) (ci := 3) (v := .ref qsa) (C := RX3) (T := TX3) (N := 3) hx hb hts k_X3_save_inX3 hown hK hP 0 rfl rfl 0 (by decide) (hts _ k_X3_save_f11) (fun _ h9 => h9) rfl dX3_save_33 ?_
    refine lv_aload_n hx hb dX3_save_36 rfl (lv_at hl 0 rfl) ?_
    refine va_get (D := gD G) (ci := 3) (v := .int so) (C := RX3) (T := TX3) (N := 3) hx hb hts k_X3_save_inX3 hown hK hP 0 rfl rfl 1 (by decide) (hts _ k_X3_save_f17) (fun _ h9 => h9) rfl dX3_save_37 ?_
    refine lv_aload_n hx hb dX3_save_40 rfl (lv_at hl 0 rfl) ?_
    refine va_get (D := gD G) (ci := 3) (v := .int sn) (C := RX3) (T := TX3) (N := 3) hx hb hts k_X3_save_inX3 hown hK hP 0 rfl rfl 2 (by decide) (hts _ k_X3_save_f21) (fun _ h9 => h9) rfl dX3_save_41 ?_
    refine lv_iadd hx hb dX3_save_44 ?_
    refine lv_bipush (v := 6) hx hb dX3_save_45 (by decide) ?_
    refine lv_irem hx hb dX3_save_47 (by decide) ?_
    obtain ⟨h2, hw⟩ := hw
    refine va_aldq hx hb hK hP 1 2 rfl rfl h2 dX3_save_48 ?_
    rcases c6 h2 with hc | hc | hc | hc | hc | hc
    · have hw := hw.1 hc
      refine W.eq (g2 := F0 m 49 ls [.ref qs0]) (by rw [hc]; rfl) ?_
      refine lv_aload_n hx hb dX3_save_49 rfl (lv_at hl 1 rfl) ?_
      refine kc_v (kr_V [] ⟨hx, hb, hml, hown, hts⟩ (cn_X1_copyFrom l G qs0 qs0b qs0e qs0f qd qdb qde qdf (sb 0) (se 0) (sf 0) (sc 0) (sp 0) (sk 0) db de df dc dp dk hw H.size) (cwV 1 hts gX3_save_X1_copyFrom rfl rfl rfl (by decide +kernel) ⟨Nat.le_of_ble_eq_true rfl, Nat.le_of_ble_eq_true rfl⟩) hK hG hP hD hS hA [2, 3, 4, 5, 26, 27, 28, 29] rfl rfl 1 2 rfl rfl rfl hl.1 rfl (Nat.le_of_ble_eq_true rfl) dX3_save_50 ⟨Nat.le_of_ble_eq_true rfl, Nat.le_of_ble_eq_true rfl⟩) hP hD hS hA [2, 3, 4, 5, 26, 27, 28, 29] [0, 1, 6, 7, 8, 9, 10, 11, 12, 13, 14, 15, 16, 17, 18, 19, 20, 21, 22, 23, 24, 25] rfl rfl rfl (by decide) (fun u H locs hw hP hD hS => ?_)
      obtain ⟨db_3, de_4, df_5, dc_6, dp_7, dk_8⟩ := u
      try dsimp only at hw
      have hP := hP.sub (ws' := (w0_X3_save G qs qsa qs0 qs0b qs0e qs0f qs1 qs1b qs1e qs1f qs2 qs2b qs2e qs2f qs3 qs3b qs3e qs3f qs4 qs4b qs4e qs4f qs5 qs5b qs5e qs5f qd qdb qde qdf so sn (va_up sb 0 db_3) (va_up se 0 de_4) (va_up sf 0 df_5) (va_up sc 0 dc_6) (va_up sp 0 dp_7) (va_up sk 0 dk_8) db de df dc dp dk)) [0, 1, 22, 23, 24, 25, 2, 3, 4, 5, 6, 7, 8, 9, 10, 11, 12, 13, 14, 15, 16, 17, 18, 19, 20, 21, 26, 27, 28, 29] rfl
      have hD := hD.sub (ws' := (w0_X3_save G qs qsa qs0 qs0b qs0e qs0f qs1 qs1b qs1e qs1f qs2 qs2b qs2e qs2f qs3 qs3b qs3e qs3f qs4 qs4b qs4e qs4f qs5 qs5b qs5e qs5f qd qdb qde qdf so sn (va_up sb 0 db_3) (va_up se 0 de_4) (va_up sf 0 df_5) (va_up sc 0 dc_6) (va_up sp 0 dp_7) (va_up sk 0 dk_8) db de df dc dp dk)) [0, 1, 22, 23, 24, 25, 2, 3, 4, 5, 6, 7, 8, 9, 10, 11, 12, 13, 14, 15, 16, 17, 18, 19, 20, 21, 26, 27, 28, 29] rfl rfl
      refine lv_aload_n hx hb dX3_save_53 rfl (lv_at hl 0 rfl) ?_
      refine lv_dup hx hb dX3_save_54 rfl ?_
      refine va_get (D := gD G) (ci := 3) (v := .int sn) (C := RX3) (T := TX3) (N := 3) hx hb hts k_X3_save_inX3 hown hK hP 0 rfl rfl 2 (by decide) (hts _ k_X3_save_f21) (fun _ h9 => h9) rfl dX3_save_55 ?_
      refine lv_iconst (v := 1) hx hb dX3_save_58 (by decide) ?_
      refine lv_iadd hx hb dX3_save_59 ?_
      refine va_put (D := gD G) (ci := 3) (v := .int (sn + (1 : Int32))) (ty := .int) (C := RX3) (T := TX3) (N := 3) hx hb hts k_X3_save_inX3 tyX3 tyX3_ok nmX3 hown hK hP hD hS 0 rfl rfl 2 (by decide) (hts _ k_X3_save_f21) (fun _ h9 => h9) rfl (by decide +kernel) rfl rfl (Nat.le_of_ble_eq_true rfl) dX3_save_60 (fun H locs hP hD hS => ?_)
      have hP : va_P (gD G) vwCl (w0_X3_save G qs qsa qs0 qs0b qs0e qs0f qs1 qs1b qs1e qs1f qs2 qs2b qs2e qs2f qs3 qs3b qs3e qs3f qs4 qs4b qs4e qs4f qs5 qs5b qs5e qs5f qd qdb qde qdf so (sn + (1 : Int32)) (va_up sb 0 db_3) (va_up se 0 de_4) (va_up sf 0 df_5) (va_up sc 0 dc_6) (va_up sp 0 dp_7) (va_up sk 0 dk_8) db de df dc dp dk) H := hP
      have hD : va_D A (w0_X3_save G qs qsa qs0 qs0b qs0e qs0f qs1 qs1b qs1e qs1f qs2 qs2b qs2e qs2f qs3 qs3b qs3e qs3f qs4 qs4b qs4e qs4f qs5 qs5b qs5e qs5f qd qdb qde qdf so (sn + (1 : Int32)) (va_up sb 0 db_3) (va_up se 0 de_4) (va_up sf 0 df_5) (va_up sc 0 dc_6) (va_up sp 0 dp_7) (va_up sk 0 dk_8) db de df dc dp dk) := hD
      exact fin_v (so, (sn + (1 : Int32)), (va_up sb 0 db_3), (va_up se 0 de_4), (va_up sf 0 df_5), (va_up sc 0 dc_6), (va_up sp 0 dp_7), (va_up sk 0 dk_8)) hx hb hr hlocks hK hS hP hD hw dX3_save_63
    · have hw := hw.2.1 hc
      refine W.eq (g2 := F0 m 49 ls [.ref qs1]) (by rw [hc]; rfl) ?_
      refine lv_aload_n hx hb dX3_save_49 rfl (lv_at hl 1 rfl) ?_
      refine kc_v (kr_V [] ⟨hx, hb, hml, hown, hts⟩ (cn_X1_copyFrom l G qs1 qs1b qs1e qs1f qd qdb qde qdf (sb 1) (se 1) (sf 1) (sc 1) (sp 1) (sk 1) db de df dc dp dk hw H.size) (cwV 1 hts gX3_save_X1_copyFrom rfl rfl rfl (by decide +kernel) ⟨Nat.le_of_ble_eq_true rfl, Nat.le_of_ble_eq_true rfl⟩) hK hG hP hD hS hA [6, 7, 8, 9, 26, 27, 28, 29] rfl rfl 1 6 rfl rfl rfl hl.1 rfl (Nat.le_of_ble_eq_true rfl) dX3_save_50 ⟨Nat.le_of_ble_eq_true rfl, Nat.le_of_ble_eq_true rfl⟩) hP hD hS hA [6, 7, 8, 9, 26, 27, 28, 29] [0, 1, 2, 3, 4, 5, 10, 11, 12, 13, 14, 15, 16, 17, 18, 19, 20, 21, 22, 23, 24, 25] rfl rfl rfl (by decide) (fun u H locs hw hP hD hS => ?_)
      obtain ⟨db_9, de_10, df_11, dc_12, dp_13, dk_14⟩ := u
      try dsimp only at hw
      have hP := hP.sub (ws' := (w0_X3_save G qs qsa qs0 qs0b qs0e qs0f qs1 qs1b qs1e qs1f qs2 qs2b qs2e qs2f qs3 qs3b qs3e qs3f qs4 qs4b qs4e qs4f qs5 qs5b qs5e qs5f qd qdb qde qdf so sn (va_up sb 1 db_9) (va_up se 1 de_10) (va_up sf 1 df_11) (va_up sc 1 dc_12) (va_up sp 1 dp_13) (va_up sk 1 dk_14) db de df dc dp dk)) [0, 1, 2, 3, 4, 5, 22, 23, 24, 25, 6, 7, 8, 9, 10, 11, 12, 13, 14, 15, 16, 17, 18, 19, 20, 21, 26, 27, 28, 29] rfl
      have hD := hD.sub (ws' := (w0_X3_save G qs qsa qs0 qs0b qs0e qs0f qs1 qs1b qs1e qs1f qs2 qs2b qs2e qs2f qs3 qs3b qs3e qs3f qs4 qs4b qs4e qs4f qs5 qs5b qs5e qs5f qd qdb qde qdf so sn (va_up sb 1 db_9) (va_up se 1 de_10) (va_up sf 1 df_11) (va_up sc 1 dc_12) (va_up sp 1 dp_13) (va_up sk 1 dk_14) db de df dc dp dk)) [0, 1, 2, 3, 4, 5, 22, 23, 24, 25, 6, 7, 8, 9, 10, 11, 12, 13, 14, 15, 16, 17, 18, 19, 20, 21, 26, 27, 28, 29] rfl rfl
      refine lv_aload_n hx hb dX3_save_53 rfl (lv_at hl 0 rfl) ?_
      refine lv_dup hx hb dX3_save_54 rfl ?_
      refine va_get (D := gD G) (ci := 3) (v := .int sn) (C := RX3) (T := TX3) (N := 3) hx hb hts k_X3_save_inX3 hown hK hP 0 rfl rfl 2 (by decide) (hts _ k_X3_save_f21) (fun _ h9 => h9) rfl dX3_save_55 ?_
      refine lv_iconst (v := 1) hx hb dX3_save_58 (by decide) ?_
      refine lv_iadd hx hb dX3_save_59 ?_
      refine va_put (D := gD G) (ci := 3) (v := .int (sn + (1 : Int32))) (ty := .int) (C := RX3) (T := TX3) (N := 3) hx hb hts k_X3_save_inX3 tyX3 tyX3_ok nmX3 hown hK hP hD hS 0 rfl rfl 2 (by decide) (hts _ k_X3_save_f21) (fun _ h9 => h9) rfl (by decide +kernel) rfl rfl (Nat.le_of_ble_eq_true rfl) dX3_save_60 (fun H locs hP hD hS => ?_)
      have hP : va_P (gD G) vwCl (w0_X3_save G qs qsa qs0 qs0b qs0e qs0f qs1 qs1b qs1e qs1f qs2 qs2b qs2e qs2f qs3 qs3b qs3e qs3f qs4 qs4b qs4e qs4f qs5 qs5b qs5e qs5f qd qdb qde qdf so (sn + (1 : Int32)) (va_up sb 1 db_9) (va_up se 1 de_10) (va_up sf 1 df_11) (va_up sc 1 dc_12) (va_up sp 1 dp_13) (va_up sk 1 dk_14) db de df dc dp dk) H := hP
      have hD : va_D A (w0_X3_save G qs qsa qs0 qs0b qs0e qs0f qs1 qs1b qs1e qs1f qs2 qs2b qs2e qs2f qs3 qs3b qs3e qs3f qs4 qs4b qs4e qs4f qs5 qs5b qs5e qs5f qd qdb qde qdf so (sn + (1 : Int32)) (va_up sb 1 db_9) (va_up se 1 de_10) (va_up sf 1 df_11) (va_up sc 1 dc_12) (va_up sp 1 dp_13) (va_up sk 1 dk_14) db de df dc dp dk) := hD
      exact fin_v (so, (sn + (1 : Int32)), (va_up sb 1 db_9), (va_up se 1 de_10), (va_up sf 1 df_11), (va_up sc 1 dc_12), (va_up sp 1 dp_13), (va_up sk 1 dk_14)) hx hb hr hlocks hK hS hP hD hw dX3_save_63
    · have hw := hw.2.2.1 hc
      refine W.eq (g2 := F0 m 49 ls [.ref qs2]) (by rw [hc]; rfl) ?_
      refine lv_aload_n hx hb dX3_save_49 rfl (lv_at hl 1 rfl) ?_
      refine kc_v (kr_V [] ⟨hx, hb, hml, hown, hts⟩ (cn_X1_copyFrom l G qs2 qs2b qs2e qs2f qd qdb qde qdf (sb 2) (se 2) (sf 2) (sc 2) (sp 2) (sk 2) db de df dc dp dk hw H.size) (cwV 1 hts gX3_save_X1_copyFrom rfl rfl rfl (by decide +kernel) ⟨Nat.le_of_ble_eq_true rfl, Nat.le_of_ble_eq_true rfl⟩) hK hG hP hD hS hA [10, 11, 12, 13, 26, 27, 28, 29] rfl rfl 1 10 rfl rfl rfl hl.1 rfl (Nat.le_of_ble_eq_true rfl) dX3_save_50 ⟨Nat.le_of_ble_eq_true rfl, Nat.le_of_ble_eq_true rfl⟩) hP hD hS hA [10, 11, 12, 13, 26, 27, 28, 29] [0, 1, 2, 3, 4, 5, 6, 7, 8, 9, 14, 15, 16, 17, 18, 19, 20, 21, 22, 23, 24, 25] rfl rfl rfl (by decide) (fun u H locs hw hP hD hS => ?_)
      obtain ⟨db_15, de_16, df_17, dc_18, dp_19, dk_20⟩ := u
      try dsimp only at hw
      have hP := hP.sub (ws' := (w0_X3_save G qs qsa qs0 qs0b qs0e qs0f qs1 qs1b qs1e qs1f qs2 qs2b qs2e qs2f qs3 qs3b qs3e qs3f qs4 qs4b qs4e qs4f qs5 qs5b qs5e qs5f qd qdb qde qdf so sn (va_up sb 2 db_15) (va_up se 2 de_16) (va_up sf 2 df_17) (va_up sc 2 dc_18) (va_up sp 2 dp_19) (va_up sk 2 dk_20) db de df dc dp dk)) [0, 1, 2, 3, 4, 5, 6, 7, 8, 9, 22, 23, 24, 25, 10, 11, 12, 13, 14, 15, 16, 17, 18, 19, 20, 21, 26, 27, 28, 29] rfl
      have hD := hD.sub (ws' := (w0_X3_save G qs qsa qs0 qs0b qs0e qs0f qs1 qs1b qs1e qs1f qs2 qs2b qs2e qs2f qs3 qs3b qs3e qs3f qs4 qs4b qs4e qs4f qs5 qs5b qs5e qs5f qd qdb qde qdf so sn (va_up sb 2 db_15) (va_up se 2 de_16) (va_up sf 2 df_17) (va_up sc 2 dc_18) (va_up sp 2 dp_19) (va_up sk 2 dk_20) db de df dc dp dk)) [0, 1, 2, 3, 4, 5, 6, 7, 8, 9, 22, 23, 24, 25, 10, 11, 12, 13, 14, 15, 16, 17, 18, 19, 20, 21, 26, 27, 28, 29] rfl rfl
      refine lv_aload_n hx hb dX3_save_53 rfl (lv_at hl 0 rfl) ?_
      refine lv_dup hx hb dX3_save_54 rfl ?_
      refine va_get (D := gD G) (ci := 3) (v := .int sn) (C := RX3) (T := TX3) (N := 3) hx hb hts k_X3_save_inX3 hown hK hP 0 rfl rfl 2 (by decide) (hts _ k_X3_save_f21) (fun _ h9 => h9) rfl dX3_save_55 ?_
      refine lv_iconst (v := 1) hx hb dX3_save_58 (by decide) ?_
      refine lv_iadd hx hb dX3_save_59 ?_
      refine va_put (D := gD G) (ci := 3) (v := .int (sn + (1 : Int32))) (ty := .int) (C := RX3) (T := TX3) (N := 3) hx hb hts k_X3_save_inX3 tyX3 tyX3_ok nmX3 hown hK hP hD hS 0 rfl rfl 2 (by decide) (hts _ k_X3_save_f21) (fun _ h9 => h9) rfl (by decide +kernel) rfl rfl (Nat.le_of_ble_eq_true rfl) dX3_save_60 (fun H locs hP hD hS => ?_)
      have hP : va_P (gD G) vwCl (w0_X3_save G qs qsa qs0 qs0b qs0e qs0f qs1 qs1b qs1e qs1f qs2 qs2b qs2e qs2f qs3 qs3b qs3e qs3f qs4 qs4b qs4e qs4f qs5 qs5b qs5e qs5f qd qdb qde qdf so (sn + (1 : Int32)) (va_up sb 2 db_15) (va_up se 2 de_16) (va_up sf 2 df_17) (va_up sc 2 dc_18) (va_up sp 2 dp_19) (va_up sk 2 dk_20) db de df dc dp dk) H := hP
      have hD : va_D A (w0_X3_save G qs qsa qs0 qs0b qs0e qs0f qs1 qs1b qs1e qs1f qs2 qs2b qs2e qs2f qs3 qs3b qs3e qs3f qs4 qs4b qs4e qs4f qs5 qs5b qs5e qs5f qd qdb qde qdf so (sn + (1 : Int32)) (va_up sb 2 db_15) (va_up se 2 de_16) (va_up sf 2 df_17) (va_up sc 2 dc_18) (va_up sp 2 dp_19) (va_up sk 2 dk_20) db de df dc dp dk) := hD
      exact fin_v (so, (sn + (1 : Int32)), (va_up sb 2 db_15), (va_up se 2 de_16), (va_up sf 2 df_17), (va_up sc 2 dc_18), (va_up sp 2 dp_19), (va_up sk 2 dk_20)) hx hb hr hlocks hK hS hP hD hw dX3_save_63
    · have hw := hw.2.2.2.1 hc
      refine W.eq (g2 := F0 m 49 ls [.ref qs3]) (by rw [hc]; rfl) ?_
      refine lv_aload_n hx hb dX3_save_49 rfl (lv_at hl 1 rfl) ?_
      refine kc_v (kr_V [] ⟨hx, hb, hml, hown, hts⟩ (cn_X1_copyFrom l G qs3 qs3b qs3e qs3f qd qdb qde qdf (sb 3) (se 3) (sf 3) (sc 3) (sp 3) (sk 3) db de df dc dp dk hw H.size) (cwV 1 hts gX3_save_X1_copyFrom rfl rfl rfl (by decide +kernel) ⟨Nat.le_of_ble_eq_true rfl, Nat.le_of_ble_eq_true rfl⟩) hK hG hP hD hS hA [14, 15, 16, 17, 26, 27, 28, 29] rfl rfl 1 14 rfl rfl rfl hl.1 rfl (Nat.le_of_ble_eq_true rfl) dX3_save_50 ⟨Nat.le_of_ble_eq_true rfl, Nat.le_of_ble_eq_true rfl⟩) hP hD hS hA [14, 15, 16, 17, 26, 27, 28, 29] [0, 1, 2, 3, 4, 5, 6, 7, 8, 9, 10, 11, 12, 13, 18, 19, 20, 21, 22, 23, 24, 25] rfl rfl rfl (by decide) (fun u H locs hw hP hD hS => ?_)
      obtain ⟨db_21, de_22, df_23, dc_24, dp_25, dk_26⟩ := u
      try dsimp only at hw
      have hP := hP.sub (ws' := (w0_X3_save G qs qsa qs0 qs0b qs0e qs0f qs1 qs1b qs1e qs1f qs2 qs2b qs2e qs2f qs3 qs3b qs3e qs3f qs4 qs4b qs4e qs4f qs5 qs5b qs5e qs5f qd qdb qde qdf so sn (va_up sb 3 db_21) (va_up se 3 de_22) (va_up sf 3 df_23) (va_up sc 3 dc_24) (va_up sp 3 dp_25) (va_up sk 3 dk_26) db de df dc dp dk)) [0, 1, 2, 3, 4, 5, 6, 7, 8, 9, 10, 11, 12, 13, 22, 23, 24, 25, 14, 15, 16, 17, 18, 19, 20, 21, 26, 27, 28, 29] rfl
      have hD := hD.sub (ws' := (w0_X3_save G qs qsa qs0 qs0b qs0e qs0f qs1 qs1b qs1e qs1f qs2 qs2b qs2e qs2f qs3 qs3b qs3e qs3f qs4 qs4b qs4e qs4f qs5 qs5b qs5e qs5f qd qdb qde qdf so sn (va_up sb 3 db_21) (va_up se 3 de_22) (va_up sf 3 df_23) (va_up sc 3 dc_24) (va_up sp 3 dp_25) (va_up sk 3 dk_26) db de df dc dp dk)) [0, 1, 2, 3, 4, 5, 6, 7, 8, 9, 10, 11, 12, 13, 22, 23, 24, 25, 14, 15, 16, 17, 18, 19, 20, 21, 26, 27, 28, 29] rfl rfl
      refine lv_aload_n hx hb dX3_save_53 rfl (lv_at hl 0 rfl) ?_
      refine lv_dup hx hb dX3_save_54 rfl ?_
      refine va_get (D := gD G) (ci := 3) (v := .int sn) (C := RX3) (T := TX3) (N := 3) hx hb hts k_X3_save_inX3 hown hK hP 0 rfl rfl 2 (by decide) (hts _ k_X3_save_f21) (fun _ h9 => h9) rfl dX3_save_55 ?_
      refine lv_iconst (v := 1) hx hb dX3_save_58 (by decide) ?_
      refine lv_iadd hx hb dX3_save_59 ?_
      refine va_put (D := gD G) (ci := 3) (v := .int (sn + (1 : Int32))) (ty := .int) (C := RX3) (T := TX3) (N := 3) hx hb hts k_X3_save_inX3 tyX3 tyX3_ok nmX3 hown hK hP hD hS 0 rfl rfl 2 (by decide) (hts _ k_X3_save_f21) (fun _ h9 => h9) rfl (by decide +kernel) rfl rfl (Nat.le_of_ble_eq_true rfl) dX3_save_60 (fun H locs hP hD hS => ?_)
      have hP : va_P (gD G) vwCl (w0_X3_save G qs qsa qs0 qs0b qs0e qs0f qs1 qs1b qs1e qs1f qs2 qs2b qs2e qs2f qs3 qs3b qs3e qs3f qs4 qs4b qs4e qs4f qs5 qs5b qs5e qs5f qd qdb qde qdf so (sn + (1 : Int32)) (va_up sb 3 db_21) (va_up se 3 de_22) (va_up sf 3 df_23) (va_up sc 3 dc_24) (va_up sp 3 dp_25) (va_up sk 3 dk_26) db de df dc dp dk) H := hP
      have hD : va_D A (w0_X3_save G qs qsa qs0 qs0b qs0e qs0f qs1 qs1b qs1e qs1f qs2 qs2b qs2e qs2f qs3 qs3b qs3e qs3f qs4 qs4b qs4e qs4f qs5 qs5b qs5e qs5f qd qdb qde qdf so (sn + (1 : Int32)) (va_up sb 3 db_21) (va_up se 3 de_22) (va_up sf 3 df_23) (va_up sc 3 dc_24) (va_up sp 3 dp_25) (va_up sk 3 dk_26) db de df dc dp dk) := hD
      exact fin_v (so, (sn + (1 : Int32)), (va_up sb 3 db_21), (va_up se 3 de_22), (va_up sf 3 df_23), (va_up sc 3 dc_24), (va_up sp 3 dp_25), (va_up sk 3 dk_26)) hx hb hr hlocks hK hS hP hD hw dX3_save_63
    · have hw := hw.2.2.2.2.1 hc
      refine W.eq (g2 := F0 m 49 ls [.ref qs4]) (by rw [hc]; rfl) ?_
      refine lv_aload_n hx hb dX3_save_49 rfl (lv_at hl 1 rfl) ?_
      refine kc_v (kr_V [] ⟨hx, hb, hml, hown, hts⟩ (cn_X1_copyFrom l G qs4 qs4b qs4e qs4f qd qdb qde qdf (sb 4) (se 4) (sf 4) (sc 4) (sp 4) (sk 4) db de df dc dp dk hw H.size) (cwV 1 hts gX3_save_X1_copyFrom rfl rfl rfl (by decide +kernel) ⟨Nat.le_of_ble_eq_true rfl, Nat.le_of_ble_eq_true rfl⟩) hK hG hP hD hS hA [18, 19, 20, 21, 26, 27, 28, 29] rfl rfl 1 18 rfl rfl rfl hl.1 rfl (Nat.le_of_ble_eq_true rfl) dX3_save_50 ⟨Nat.le_of_ble_eq_true rfl, Nat.le_of_ble_eq_true rfl⟩) hP hD hS hA [18, 19, 20, 21, 26, 27, 28, 29] [0, 1, 2, 3, 4, 5, 6, 7, 8, 9, 10, 11, 12, 13, 14, 15, 16, 17, 22, 23, 24, 25] rfl rfl rfl (by decide) (fun u H locs hw hP hD hS => ?_)
      obtain ⟨db_27, de_28, df_29, dc_30, dp_31, dk_32⟩ := u
      try dsimp only at hw
      have hP := hP.sub (ws' := (w0_X3_save G qs qsa qs0 qs0b qs0e qs0f qs1 qs1b qs1e qs1f qs2 qs2b qs2e qs2f qs3 qs3b qs3e qs3f qs4 qs4b qs4e qs4f qs5 qs5b qs5e qs5f qd qdb qde qdf so sn (va_up sb 4 db_27) (va_up se 4 de_28) (va_up sf 4 df_29) (va_up sc 4 dc_30) (va_up sp 4 dp_31) (va_up sk 4 dk_32) db de df dc dp dk)) [0, 1, 2, 3, 4, 5, 6, 7, 8, 9, 10, 11, 12, 13, 14, 15, 16, 17, 22, 23, 24, 25, 18, 19, 20, 21, 26, 27, 28, 29] rfl
      have hD := hD.sub (ws' := (w0_X3_save G qs qsa qs0 qs0b qs0e qs0f qs1 qs1b qs1e qs1f qs2 qs2b qs2e qs2f qs3 qs3b qs3e qs3f qs4 qs4b qs4e qs4f qs5 qs5b qs5e qs5f qd qdb qde qdf so sn (va_up sb 4 db_27) (va_up se 4 de_28) (va_up sf 4 df_29) (va_up sc 4 dc_30) (va_up sp 4 dp_31) (va_up sk 4 dk_32) db de df dc dp dk)) [0, 1, 2, 3, 4, 5, 6, 7, 8, 9, 10, 11, 12, 13, 14, 15, 16, 17, 22, 23, 24, 25, 18, 19, 20, 21, 26, 27, 28, 29] rfl rfl
      refine lv_aload_n hx hb dX3_save_53 rfl (lv_at hl 0 rfl) ?_
      refine lv_dup hx hb dX3_save_54 rfl ?_
      refine va_get (D := gD G) (ci := 3) (v := .int sn) (C := RX3) (T := TX3) (N := 3) hx hb hts k_X3_save_inX3 hown hK hP 0 rfl rfl 2 (by decide) (hts _ k_X3_save_f21) (fun _ h9 => h9) rfl dX3_save_55 ?_
      refine lv_iconst (v := 1) hx hb dX3_save_58 (by decide) ?_
      refine lv_iadd hx hb dX3_save_59 ?_
      refine va_put (D := gD G) (ci := 3) (v := .int (sn + (1 : Int32))) (ty := .int) (C := RX3) (T := TX3) (N := 3) hx hb hts k_X3_save_inX3 tyX3 tyX3_ok nmX3 hown hK hP hD hS 0 rfl rfl 2 (by decide) (hts _ k_X3_save_f21) (fun _ h9 => h9) rfl (by decide +kernel) rfl rfl (Nat.le_of_ble_eq_true rfl) dX3_save_60 (fun H locs hP hD hS => ?_)
      have hP : va_P (gD G) vwCl (w0_X3_save G qs qsa qs0 qs0b qs0e qs0f qs1 qs1b qs1e qs1f qs2 qs2b qs2e qs2f qs3 qs3b qs3e qs3f qs4 qs4b qs4e qs4f qs5 qs5b qs5e qs5f qd qdb qde qdf so (sn + (1 : Int32)) (va_up sb 4 db_27) (va_up se 4 de_28) (va_up sf 4 df_29) (va_up sc 4 dc_30) (va_up sp 4 dp_31) (va_up sk 4 dk_32) db de df dc dp dk) H := hP
      have hD : va_D A (w0_X3_save G qs qsa qs0 qs0b qs0e qs0f qs1 qs1b qs1e qs1f qs2 qs2b qs2e qs2f qs3 qs3b qs3e qs3f qs4 qs4b qs4e qs4f qs5 qs5b qs5e qs5f qd qdb qde qdf so (sn + (1 : Int32)) (va_up sb 4 db_27) (va_up se 4 de_28) (va_up sf 4 df_29) (va_up sc 4 dc_30) (va_up sp 4 dp_31) (va_up sk 4 dk_32) db de df dc dp dk) := hD
      exact fin_v (so, (sn + (1 : Int32)), (va_up sb 4 db_27), (va_up se 4 de_28), (va_up sf 4 df_29), (va_up sc 4 dc_30), (va_up sp 4 dp_31), (va_up sk 4 dk_32)) hx hb hr hlocks hK hS hP hD hw dX3_save_63
    · have hw := hw.2.2.2.2.2 hc
      refine W.eq (g2 := F0 m 49 ls [.ref qs5]) (by rw [hc]; rfl) ?_
      refine lv_aload_n hx hb dX3_save_49 rfl (lv_at hl 1 rfl) ?_
      refine kc_v (kr_V [] ⟨hx, hb, hml, hown, hts⟩ (cn_X1_copyFrom l G qs5 qs5b qs5e qs5f qd qdb qde qdf (sb 5) (se 5) (sf 5) (sc 5) (sp 5) (sk 5) db de df dc dp dk hw H.size) (cwV 1 hts gX3_save_X1_copyFrom rfl rfl rfl (by decide +kernel) ⟨Nat.le_of_ble_eq_true rfl, Nat.le_of_ble_eq_true rfl⟩) hK hG hP hD hS hA [22, 23, 24, 25, 26, 27, 28, 29] rfl rfl 1 22 rfl rfl rfl hl.1 rfl (Nat.le_of_ble_eq_true rfl) dX3_save_50 ⟨Nat.le_of_ble_eq_true rfl, Nat.le_of_ble_eq_true rfl⟩) hP hD hS hA [22, 23, 24, 25, 26, 27, 28, 29] [0, 1, 2, 3, 4, 5, 6, 7, 8, 9, 10, 11, 12, 13, 14, 15, 16, 17, 18, 19, 20, 21] rfl rfl rfl (by decide) (fun u H locs hw hP hD hS => ?_)
      obtain ⟨db_33, de_34, df_35, dc_36, dp_37, dk_38⟩ := u
      try dsimp only at hw
      have hP := hP.sub (ws' := (w0_X3_save G qs qsa qs0 qs0b qs0e qs0f qs1 qs1b qs1e qs1f qs2 qs2b qs2e qs2f qs3 qs3b qs3e qs3f qs4 qs4b qs4e qs4f qs5 qs5b qs5e qs5f qd qdb qde qdf so sn (va_up sb 5 db_33) (va_up se 5 de_34) (va_up sf 5 df_35) (va_up sc 5 dc_36) (va_up sp 5 dp_37) (va_up sk 5 dk_38) db de df dc dp dk)) [0, 1, 2, 3, 4, 5, 6, 7, 8, 9, 10, 11, 12, 13, 14, 15, 16, 17, 18, 19, 20, 21, 22, 23, 24, 25, 26, 27, 28, 29] rfl
      have hD := hD.sub (ws' := (w0_X3_save G qs qsa qs0 qs0b qs0e qs0f qs1 qs1b qs1e qs1f qs2 qs2b qs2e qs2f qs3 qs3b qs3e qs3f qs4 qs4b qs4e qs4f qs5 qs5b qs5e qs5f qd qdb qde qdf so sn (va_up sb 5 db_33) (va_up se 5 de_34) (va_up sf 5 df_35) (va_up sc 5 dc_36) (va_up sp 5 dp_37) (va_up sk 5 dk_38) db de df dc dp dk)) [0, 1, 2, 3, 4, 5, 6, 7, 8, 9, 10, 11, 12, 13, 14, 15, 16, 17, 18, 19, 20, 21, 22, 23, 24, 25, 26, 27, 28, 29] rfl rfl
      refine lv_aload_n hx hb dX3_save_53 rfl (lv_at hl 0 rfl) ?_
      refine lv_dup hx hb dX3_save_54 rfl ?_
      refine va_get (D := gD G) (ci := 3) (v := .int sn) (C := RX3) (T := TX3) (N := 3) hx hb hts k_X3_save_inX3 hown hK hP 0 rfl rfl 2 (by decide) (hts _ k_X3_save_f21) (fun _ h9 => h9) rfl dX3_save_55 ?_
      refine lv_iconst (v := 1) hx hb dX3_save_58 (by decide) ?_
      refine lv_iadd hx hb dX3_save_59 ?_
      refine va_put (D := gD G) (ci := 3) (v := .int (sn + (1 : Int32))) (ty := .int) (C := RX3) (T := TX3) (N := 3) hx hb hts k_X3_save_inX3 tyX3 tyX3_ok nmX3 hown hK hP hD hS 0 rfl rfl 2 (by decide) (hts _ k_X3_save_f21) (fun _ h9 => h9) rfl (by decide +kernel) rfl rfl (Nat.le_of_ble_eq_true rfl) dX3_save_60 (fun H locs hP hD hS => ?_)
      have hP : va_P (gD G) vwCl (w0_X3_save G qs qsa qs0 qs0b qs0e qs0f qs1 qs1b qs1e qs1f qs2 qs2b qs2e qs2f qs3 qs3b qs3e qs3f qs4 qs4b qs4e qs4f qs5 qs5b qs5e qs5f qd qdb qde qdf so (sn + (1 : Int32)) (va_up sb 5 db_33) (va_up se 5 de_34) (va_up sf 5 df_35) (va_up sc 5 dc_36) (va_up sp 5 dp_37) (va_up sk 5 dk_38) db de df dc dp dk) H := hP
      have hD : va_D A (w0_X3_save G qs qsa qs0 qs0b qs0e qs0f qs1 qs1b qs1e qs1f qs2 qs2b qs2e qs2f qs3 qs3b qs3e qs3f qs4 qs4b qs4e qs4f qs5 qs5b qs5e qs5f qd qdb qde qdf so (sn + (1 : Int32)) (va_up sb 5 db_33) (va_up se 5 de_34) (va_up sf 5 df_35) (va_up sc 5 dc_36) (va_up sp 5 dp_37) (va_up sk 5 dk_38) db de df dc dp dk) := hD
      exact fin_v (so, (sn + (1 : Int32)), (va_up sb 5 db_33), (va_up se 5 de_34), (va_up sf 5 df_35), (va_up sc 5 dc_36), (va_up sp 5 dp_37), (va_up sk 5 dk_38)) hx hb hr hlocks hK hS hP hD hw dX3_save_63
  unfold wn_X3_save at hw
  refine lv_aload_n hx hb dX3_save_0 rfl (lv_at hl 0 rfl) ?_
  refine va_get (D := gD G) (ci := 3) (v := .int sn) (C := RX3) (T := TX3) (N := 3) hx hb hts k_X3_save_inX3 hown hK hP 0 rfl rfl 2 (by decide) (hts _ k_X3_save_f21) (fun _ h9 => h9) rfl dX3_save_1 ?_
  refine lv_bipush (v := 6) hx hb dX3_save_4 (by decide) ?_
  refine lv_icmp_ne (tgt := 32) hx hb dX3_save_6 (by decide) (fun cd1 => ?_) (fun cd1 => ?_)
  · have hw := hw.1 cd1
    exact J32 so sn sb se sf sc sp sk _ _ _ hP hD hS hl hw
  · have hw := hw.2 cd1
    refine lv_aload_n hx hb dX3_save_9 rfl (lv_at hl 0 rfl) ?_
    refine lv_aload_n hx hb dX3_save_10 rfl (lv_at hl 0 rfl) ?_
    refine va_get (D := gD G) (ci := 3) (v := .int so) (C := RX3) (T := TX3) (N := 3) hx hb hts k_X3_save_inX3 hown hK hP 0 rfl rfl 1 (by decide) (hts _ k_X3_save_f17) (fun _ h9 => h9) rfl dX3_save_11 ?_
    refine lv_iconst (v := 1) hx hb dX3_save_14 (by decide) ?_
    refine lv_iadd hx hb dX3_save_15 ?_
    refine lv_bipush (v := 6) hx hb dX3_save_16 (by decide) ?_
    refine lv_irem hx hb dX3_save_18 (by decide) ?_
    refine va_put (D := gD G) (ci := 3) (v := .int ((so + (1 : Int32)) - (so + (1 : Int32)) / (6 : Int32) * (6 : Int32))) (ty := .int) (C := RX3) (T := TX3) (N := 3) hx hb hts k_X3_save_inX3 tyX3 tyX3_ok nmX3 hown hK hP hD hS 0 rfl rfl 1 (by decide) (hts _ k_X3_save_f17) (fun _ h9 => h9) rfl (by decide +kernel) rfl rfl (Nat.le_of_ble_eq_true rfl) dX3_save_19 (fun H locs hP hD hS => ?_)
    have hP : va_P (gD G) vwCl (w0_X3_save G qs qsa qs0 qs0b qs0e qs0f qs1 qs1b qs1e qs1f qs2 qs2b qs2e qs2f qs3 qs3b qs3e qs3f qs4 qs4b qs4e qs4f qs5 qs5b qs5e qs5f qd qdb qde qdf ((so + (1 : Int32)) - (so + (1 : Int32)) / (6 : Int32) * (6 : Int32)) sn sb se sf sc sp sk db de df dc dp dk) H := hP
    have hD : va_D A (w0_X3_save G qs qsa qs0 qs0b qs0e qs0f qs1 qs1b qs1e qs1f qs2 qs2b qs2e qs2f qs3 qs3b qs3e qs3f qs4 qs4b qs4e qs4f qs5 qs5b qs5e qs5f qd qdb qde qdf ((so + (1 : Int32)) - (so + (1 : Int32)) / (6 : Int32) * (6 : Int32)) sn sb se sf sc sp sk db de df dc dp dk) := hD
    refine lv_aload_n hx hb dX3_save_22 rfl (lv_at hl 0 rfl) ?_
    refine lv_dup hx hb dX3_save_23 rfl ?_
    refine va_get (D := gD G) (ci := 3) (v := .int sn) (C := RX3) (T := TX3) (N := 3) hx hb hts k_X3_save_inX3 hown hK hP 0 rfl rfl 2 (by decide) (hts _ k_X3_save_f21) (fun _ h9 => h9) rfl dX3_save_24 ?_
    refine lv_iconst (v := 1) hx hb dX3_save_27 (by decide) ?_
    refine lv_isub hx hb dX3_save_28 ?_
    refine va_put (D := gD G) (ci := 3) (v := .int (sn - (1 : Int32))) (ty := .int) (C := RX3) (T := TX3) (N := 3) hx hb hts k_X3_save_inX3 tyX3 tyX3_ok nmX3 hown hK hP hD hS 0 rfl rfl 2 (by decide) (hts _ k_X3_save_f21) (fun _ h9 => h9) rfl (by decide +kernel) rfl rfl (Nat.le_of_ble_eq_true rfl) dX3_save_29 (fun H locs hP hD hS => ?_)
    have hP : va_P (gD G) vwCl (w0_X3_save G qs qsa qs0 qs0b qs0e qs0f qs1 qs1b qs1e qs1f qs2 qs2b qs2e qs2f qs3 qs3b qs3e qs3f qs4 qs4b qs4e qs4f qs5 qs5b qs5e qs5f qd qdb qde qdf ((so + (1 : Int32)) - (so + (1 : Int32)) / (6 : Int32) * (6 : Int32)) (sn - (1 : Int32)) sb se sf sc sp sk db de df dc dp dk) H := hP
    have hD : va_D A (w0_X3_save G qs qsa qs0 qs0b qs0e qs0f qs1 qs1b qs1e qs1f qs2 qs2b qs2e qs2f qs3 qs3b qs3e qs3f qs4 qs4b qs4e qs4f qs5 qs5b qs5e qs5f qd qdb qde qdf ((so + (1 : Int32)) - (so + (1 : Int32)) / (6 : Int32) * (6 : Int32)) (sn - (1 : Int32)) sb se sf sc sp sk db de df dc dp dk) := hD
    exact J32 ((so + (1 : Int32)) - (so + (1 : Int32)) / (6 : Int32) * (6 : Int32)) (sn - (1 : Int32)) sb se sf sc sp sk _ _ _ hP hD hS hl hw

abbrev w0_X3_restoreLatest (G : mG) (qs : Nat) (qsa : Nat) (qs0 : Nat) (qs0b : Nat) (qs0e : Nat) (qs0f : Nat) (qs1 : Nat) (qs1b : Nat) (qs1e : Nat) (qs1f : Nat) (qs2 : Nat) (qs2b : Nat) (qs2e : Nat) (qs2f : Nat) (qs3 : Nat) (qs3b : Nat) (qs3e : Nat) (qs3f : Nat) (qs4 : Nat) (qs4b : Nat) (qs4e : Nat) (qs4f : Nat) (qs5 : Nat) (qs5b : Nat) (qs5e : Nat) (qs5f : Nat) (qd : Nat) (qdb : Nat) (qde : Nat) (qdf : Nat) (so : Int32) (sn : Int32) (sb : Nat → Nat → Int32) (se : Nat → Nat → Int32) (sf : Nat → Nat → Int32) (sc : Nat → Int32) (sp : Nat → Int32) (sk : Nat → Int32) (db : Nat → Int32) (de : Nat → Int32) (df : Nat → Int32) (dc : Int32) (dp : Int32) (dk : Int32) : va_W := [(qs, .inr (3, [.ref qsa, .int so, .int sn])), (qsa, .inl (gQ G, (6, .inr (.inr (.inr (.inr (g6 qs0 qs1 qs2 qs3 qs4 qs5))))))), (qs0, .inr (1, [.ref qs0b, .ref qs0e, .ref qs0f, .int (sc 0), .int (sp 0), .int (sk 0)])), (qs0b, .inl (gI G, (14, .inl (sb 0)))), (qs0e, .inl (gI G, (14, .inl (se 0)))), (qs0f, .inl (gI G, (14, .inl (sf 0)))), (qs1, .inr (1, [.ref qs1b, .ref qs1e, .ref qs1f, .int (sc 1), .int (sp 1), .int (sk 1)])), (qs1b, .inl (gI G, (14, .inl (sb 1)))), (qs1e, .inl (gI G, (14, .inl (se 1)))), (qs1f, .inl (gI G, (14, .inl (sf 1)))), (qs2, .inr (1, [.ref qs2b, .ref qs2e, .ref qs2f, .int (sc 2), .int (sp 2), .int (sk 2)])), (qs2b, .inl (gI G, (14, .inl (sb 2)))), (qs2e, .inl (gI G, (14, .inl (se 2)))), (qs2f, .inl (gI G, (14, .inl (sf 2)))), (qs3, .inr (1, [.ref qs3b, .ref qs3e, .ref qs3f, .int (sc 3), .int (sp 3), .int (sk 3)])), (qs3b, .inl (gI G, (14, .inl (sb 3)))), (qs3e, .inl (gI G, (14, .inl (se 3)))), (qs3f, .inl (gI G, (14, .inl (sf 3)))), (qs4, .inr (1, [.ref qs4b, .ref qs4e, .ref qs4f, .int (sc 4), .int (sp 4), .int (sk 4)])), (qs4b, .inl (gI G, (14, .inl (sb 4)))), (qs4e, .inl (gI G, (14, .inl (se 4)))), (qs4f, .inl (gI G, (14, .inl (sf 4)))), (qs5, .inr (1, [.ref qs5b, .ref qs5e, .ref qs5f, .int (sc 5), .int (sp 5), .int (sk 5)])), (qs5b, .inl (gI G, (14, .inl (sb 5)))), (qs5e, .inl (gI G, (14, .inl (se 5)))), (qs5f, .inl (gI G, (14, .inl (sf 5)))), (qd, .inr (1, [.ref qdb, .ref qde, .ref qdf, .int dc, .int dp, .int dk])), (qdb, .inl (gI G, (14, .inl db))), (qde, .inl (gI G, (14, .inl de))), (qdf, .inl (gI G, (14, .inl df)))]
set_option maxRecDepth 100000 in
theorem k_X3_restoreLatest_inX3 : ∀ w ∈ u_ws RX3 TX3 3, w ∈ wsX3_restoreLatest := by decide +kernel
set_option maxRecDepth 100000 in
theorem k_X3_restoreLatest_f21 : Cond.fieldLink RX3 21 "RehearsalRoom$SavedDays" "count" "I" ∈ wsX3_restoreLatest := by decide +kernel
set_option maxRecDepth 100000 in
theorem k_X3_restoreLatest_f11 : Cond.fieldLink RX3 11 "RehearsalRoom$SavedDays" "days" "[LRehearsalRoom$Day;" ∈ wsX3_restoreLatest := by decide +kernel
set_option maxRecDepth 100000 in
theorem k_X3_restoreLatest_f17 : Cond.fieldLink RX3 17 "RehearsalRoom$SavedDays" "oldest" "I" ∈ wsX3_restoreLatest := by decide +kernel
set_option maxHeartbeats 8000000 in
set_option maxRecDepth 100000 in
theorem cn_X3_restoreLatest (l : Launch) (G : mG) (qs : Nat) (qsa : Nat) (qs0 : Nat) (qs0b : Nat) (qs0e : Nat) (qs0f : Nat) (qs1 : Nat) (qs1b : Nat) (qs1e : Nat) (qs1f : Nat) (qs2 : Nat) (qs2b : Nat) (qs2e : Nat) (qs2f : Nat) (qs3 : Nat) (qs3b : Nat) (qs3e : Nat) (qs3f : Nat) (qs4 : Nat) (qs4b : Nat) (qs4e : Nat) (qs4f : Nat) (qs5 : Nat) (qs5b : Nat) (qs5e : Nat) (qs5f : Nat) (qd : Nat) (qdb : Nat) (qde : Nat) (qdf : Nat) (so : Int32) (sn : Int32) (sb : Nat → Nat → Int32) (se : Nat → Nat → Int32) (sf : Nat → Nat → Int32) (sc : Nat → Int32) (sp : Nat → Int32) (sk : Nat → Int32) (db : Nat → Int32) (de : Nat → Int32) (df : Nat → Int32) (dc : Int32) (dp : Int32) (dk : Int32) {Q : Int32 → (Nat → Int32) → (Nat → Int32) → (Nat → Int32) → Int32 → Int32 → Int32 → Prop} (hw : wn_X3_restoreLatest so sn sb se sf sc sp sk db de df dc dp dk Q) (sz : Nat) :
    Met l yX3_restoreLatest wsX3_restoreLatest ({ frames := 2, cells := 0, slots := 0, locals := 45 } : Room) (va_Pc [.ref qs, .ref qd] (mPre G (w0_X3_restoreLatest G qs qsa qs0 qs0b qs0e qs0f qs1 qs1b qs1e qs1f qs2 qs2b qs2e qs2f qs3 qs3b qs3e qs3f qs4 qs4b qs4e qs4f qs5 qs5b qs5e qs5f qd qdb qde qdf so sn sb se sf sc sp sk db de df dc dp dk) sz)) (va_Qv (fun (u : Int32 × (Nat → Int32) × (Nat → Int32) × (Nat → Int32) × Int32 × Int32 × Int32) => Q u.1 u.2.1 u.2.2.1 u.2.2.2.1 u.2.2.2.2.1 u.2.2.2.2.2.1 u.2.2.2.2.2.2) (mBk G (va_A (w0_X3_restoreLatest G qs qsa qs0 qs0b qs0e qs0f qs1 qs1b qs1e qs1f qs2 qs2b qs2e qs2f qs3 qs3b qs3e qs3f qs4 qs4b qs4e qs4f qs5 qs5b qs5e qs5f qd qdb qde qdf so sn sb se sf sc sp sk db de df dc dp dk) sz) (fun (u : Int32 × (Nat → Int32) × (Nat → Int32) × (Nat → Int32) × Int32 × Int32 × Int32) => (w0_X3_restoreLatest G qs qsa qs0 qs0b qs0e qs0f qs1 qs1b qs1e qs1f qs2 qs2b qs2e qs2f qs3 qs3b qs3e qs3f qs4 qs4b qs4e qs4f qs5 qs5b qs5e qs5f qd qdb qde qdf so u.1 sb se sf sc sp sk u.2.1 u.2.2.1 u.2.2.2.1 u.2.2.2.2.1 u.2.2.2.2.2.1 u.2.2.2.2.2.2))) (va_A (w0_X3_restoreLatest G qs qsa qs0 qs0b qs0e qs0f qs1 qs1b qs1e qs1f qs2 qs2b qs2e qs2f qs3 qs3b qs3e qs3f qs4 qs4b qs4e qs4f qs5 qs5b qs5e qs5f qd qdb qde qdf so sn sb se sf sc sp sk db de df dc dp dk) sz)) 0 0 (va_A (w0_X3_restoreLatest G qs qsa qs0 qs0b qs0e qs0f qs1 qs1b qs1e qs1f qs2 qs2b qs2e qs2f qs3 qs3b qs3e qs3f qs4 qs4b qs4e qs4f qs5 qs5b qs5e qs5f qd qdb qde qdf so sn sb se sf sc sp sk db de df dc dp dk) sz) := by
  refine ms_v (cc := cX3_restoreLatest) (maxL := 2) (ret := none) (post := (fun (u : Int32 × (Nat → Int32) × (Nat → Int32) × (Nat → Int32) × Int32 × Int32 × Int32) => Q u.1 u.2.1 u.2.2.1 u.2.2.2.1 u.2.2.2.2.1 u.2.2.2.2.2.1 u.2.2.2.2.2.2)) (w1 := (fun (u : Int32 × (Nat → Int32) × (Nat → Int32) × (Nat → Int32) × Int32 × Int32 × Int32) => (w0_X3_restoreLatest G qs qsa qs0 qs0b qs0e qs0f qs1 qs1b qs1e qs1f qs2 qs2b qs2e qs2f qs3 qs3b qs3e qs3f qs4 qs4b qs4e qs4f qs5 qs5b qs5e qs5f qd qdb qde qdf so u.1 sb se sf sc sp sk u.2.1 u.2.2.1 u.2.2.2.1 u.2.2.2.2.1 u.2.2.2.2.2.1 u.2.2.2.2.2.2))) (by decide) rfl (Nat.le_of_ble_eq_true rfl) ?_ sz
  intro p e s m below meth c A ls H locs hx hb hr hml hown hts hlocks hK hG hP hD hS hA hl
  have hown : s.vm.findClass RX3 = some m.cls := hown
  have hl : lv_has ls 2 [(0, .ref qs), (1, .ref qd)] := hl
  unfold wn_X3_restoreLatest at hw
  refine lv_aload_n hx hb dX3_restoreLatest_0 rfl (lv_at hl 0 rfl) ?_
  refine lv_dup hx hb dX3_restoreLatest_1 rfl ?_
  refine va_get (D := gD G) (ci := 3) (v := .int sn) (C := RX3) (T := TX3) (N := 3) hx hb hts k_X3_restoreLatest_inX3 hown hK hP 0 rfl rfl 2 (by decide) (hts _ k_X3_restoreLatest_f21) (fun _ h9 => h9) rfl dX3_restoreLatest_2 ?_
  refine lv_iconst (v := 1) hx hb dX3_restoreLatest_5 (by decide) ?_
  refine lv_isub hx hb dX3_restoreLatest_6 ?_
  refine va_put (D := gD G) (ci := 3) (v := .int (sn - (1 : Int32))) (ty := .int) (C := RX3) (T := TX3) (N := 3) hx hb hts k_X3_restoreLatest_inX3 tyX3 tyX3_ok nmX3 hown hK hP hD hS 0 rfl rfl 2 (by decide) (hts _ k_X3_restoreLatest_f21) (fun _ h9 => h9) rfl (by decide +kernel) rfl rfl (Nat.le_of_ble_eq_true rfl) dX3_restoreLatest_7 (fun H locs hP hD hS => ?_)
  have hP : va_P (gD G) vwCl (w0_X3_restoreLatest G qs qsa qs0 qs0b qs0e qs0f qs1 qs1b qs1e qs1f qs2 qs2b qs2e qs2f qs3 qs3b qs3e qs3f qs4 qs4b qs4e qs4f qs5 qs5b qs5e qs5f qd qdb qde qdf so (sn - (1 : Int32)) sb se sf sc sp sk db de df dc dp dk) H := hP
  have hD : va_D A (w0_X3_restoreLatest G qs qsa qs0 qs0b qs0e qs0f qs1 qs1b qs1e qs1f qs2 qs2b qs2e qs2f qs3 qs3b qs3e qs3f qs4 qs4b qs4e qs4f qs5 qs5b qs5e qs5f qd qdb qde qdf so (sn - (1 : Int32)) sb se sf sc sp sk db de df dc dp dk) := hD
  refine lv_aload_n hx hb dX3_restoreLatest_10 rfl (lv_at hl 1 rfl) ?_
  refine lv_aload_n hx hb dX3_restoreLatest_11 rfl (lv_at hl 0 rfl) ?_
  refine va_get (D := gD G) (ci := 3) (v := .ref qsa) (C := RX3) (T := TX3) (N := 3) hx hb hts k_X3_restoreLatest_inX3 hown hK hP 0 rfl rfl 0 (by decide) (hts _ k_X3_restoreLatest_f11) (fun _ h9 => h9) rfl dX3_restoreLatest_12 ?_
  refine lv_aload_n hx hb dX3_restoreLatest_15 rfl (lv_at hl 0 rfl) ?_
  refine va_get (D := gD G) (ci := 3) (v := .int so) (C := RX3) (T := TX3) (N := 3) hx hb hts k_X3_restoreLatest_inX3 hown hK hP 0 rfl rfl 1 (by decide) (hts _ k_X3_restoreLatest_f17) (fun _ h9 => h9) rfl dX3_restoreLatest_16 ?_
  refine lv_aload_n hx hb dX3_restoreLatest_19 rfl (lv_at hl 0 rfl) ?_
  refine va_get (D := gD G) (ci := 3) (v := .int (sn - (1 : Int32))) (C := RX3) (T := TX3) (N := 3) hx hb hts k_X3_restoreLatest_inX3 hown hK hP 0 rfl rfl 2 (by decide) (hts _ k_X3_restoreLatest_f21) (fun _ h9 => h9) rfl dX3_restoreLatest_20 ?_
  refine lv_iadd hx hb dX3_restoreLatest_23 ?_
  refine lv_bipush (v := 6) hx hb dX3_restoreLatest_24 (by decide) ?_
  refine lv_irem hx hb dX3_restoreLatest_26 (by decide) ?_
  obtain ⟨h1, hw⟩ := hw
  refine va_aldq hx hb hK hP 1 2 rfl rfl h1 dX3_restoreLatest_27 ?_
  rcases c6 h1 with hc | hc | hc | hc | hc | hc
  · have hw := hw.1 hc
    refine W.eq (g2 := F0 m 28 ls [.ref qs0, .ref qd]) (by rw [hc]; rfl) ?_
    refine kc_v (kr_V [] ⟨hx, hb, hml, hown, hts⟩ (cn_X1_copyFrom l G qd qdb qde qdf qs0 qs0b qs0e qs0f db de df dc dp dk (sb 0) (se 0) (sf 0) (sc 0) (sp 0) (sk 0) hw H.size) (cwV 1 hts gX3_restoreLatest_X1_copyFrom rfl rfl rfl (by decide +kernel) ⟨Nat.le_of_ble_eq_true rfl, Nat.le_of_ble_eq_true rfl⟩) hK hG hP hD hS hA [26, 27, 28, 29, 2, 3, 4, 5] rfl rfl 1 26 rfl rfl rfl hl.1 rfl (Nat.le_of_ble_eq_true rfl) dX3_restoreLatest_28 ⟨Nat.le_of_ble_eq_true rfl, Nat.le_of_ble_eq_true rfl⟩) hP hD hS hA [26, 27, 28, 29, 2, 3, 4, 5] [0, 1, 6, 7, 8, 9, 10, 11, 12, 13, 14, 15, 16, 17, 18, 19, 20, 21, 22, 23, 24, 25] rfl rfl rfl (by decide) (fun u H locs hw hP hD hS => ?_)
    obtain ⟨db_2, de_3, df_4, dc_5, dp_6, dk_7⟩ := u
    try dsimp only at hw
    have hP := hP.sub (ws' := (w0_X3_restoreLatest G qs qsa qs0 qs0b qs0e qs0f qs1 qs1b qs1e qs1f qs2 qs2b qs2e qs2f qs3 qs3b qs3e qs3f qs4 qs4b qs4e qs4f qs5 qs5b qs5e qs5f qd qdb qde qdf so (sn - (1 : Int32)) sb se sf sc sp sk db_2 de_3 df_4 dc_5 dp_6 dk_7)) [0, 1, 26, 27, 28, 29, 2, 3, 4, 5, 6, 7, 8, 9, 10, 11, 12, 13, 14, 15, 16, 17, 18, 19, 20, 21, 22, 23, 24, 25] rfl
    have hD := hD.sub (ws' := (w0_X3_restoreLatest G qs qsa qs0 qs0b qs0e qs0f qs1 qs1b qs1e qs1f qs2 qs2b qs2e qs2f qs3 qs3b qs3e qs3f qs4 qs4b qs4e qs4f qs5 qs5b qs5e qs5f qd qdb qde qdf so (sn - (1 : Int32)) sb se sf sc sp sk db_2 de_3 df_4 dc_5 dp_6 dk_7)) [0, 1, 26, 27, 28, 29, 2, 3, 4, 5, 6, 7, 8, 9, 10, 11, 12, 13, 14, 15, 16, 17, 18, 19, 20, 21, 22, 23, 24, 25] rfl rfl
    exact fin_v ((sn - (1 : Int32)), db_2, de_3, df_4, dc_5, dp_6, dk_7) hx hb hr hlocks hK hS hP hD hw dX3_restoreLatest_31
  · have hw := hw.2.1 hc
    refine W.eq (g2 := F0 m 28 ls [.ref qs1, .ref qd]) (by rw [hc]; rfl) ?_
    refine kc_v (kr_V [] ⟨hx, hb, hml, hown, hts⟩ (cn_X1_copyFrom l G qd qdb qde qdf qs1 qs1b qs1e qs1f db de df dc dp dk (sb 1) (se 1) (sf 1) (sc 1) (sp 1) (sk 1) hw H.size) (cwV 1 hts gX3_restoreLatest_X1_copyFrom rfl rfl rfl (by decide +kernel) ⟨Nat.le_of_ble_eq_true rfl, Nat.le_of_ble_eq_true rfl⟩) hK hG hP hD hS hA [26, 27, 28, 29, 6, 7, 8, 9] rfl rfl 1 26 rfl rfl rfl hl.1 rfl (Nat.le_of_ble_eq_true rfl) dX3_restoreLatest_28 ⟨Nat.le_of_ble_eq_true rfl, Nat.le_of_ble_eq_true rfl⟩) hP hD hS hA [26, 27, 28, 29, 6, 7, 8, 9] [0, 1, 2, 3, 4, 5, 10, 11, 12, 13, 14, 15, 16, 17, 18, 19, 20, 21, 22, 23, 24, 25] rfl rfl rfl (by decide) (fun u H locs hw hP hD hS => ?_)
    obtain ⟨db_8, de_9, df_10, dc_11, dp_12, dk_13⟩ := u
    try dsimp only at hw
    have hP := hP.sub (ws' := (w0_X3_restoreLatest G qs qsa qs0 qs0b qs0e qs0f qs1 qs1b qs1e qs1f qs2 qs2b qs2e qs2f qs3 qs3b qs3e qs3f qs4 qs4b qs4e qs4f qs5 qs5b qs5e qs5f qd qdb qde qdf so (sn - (1 : Int32)) sb se sf sc sp sk db_8 de_9 df_10 dc_11 dp_12 dk_13)) [0, 1, 2, 3, 4, 5, 26, 27, 28, 29, 6, 7, 8, 9, 10, 11, 12, 13, 14, 15, 16, 17, 18, 19, 20, 21, 22, 23, 24, 25] rfl
    have hD := hD.sub (ws' := (w0_X3_restoreLatest G qs qsa qs0 qs0b qs0e qs0f qs1 qs1b qs1e qs1f qs2 qs2b qs2e qs2f qs3 qs3b qs3e qs3f qs4 qs4b qs4e qs4f qs5 qs5b qs5e qs5f qd qdb qde qdf so (sn - (1 : Int32)) sb se sf sc sp sk db_8 de_9 df_10 dc_11 dp_12 dk_13)) [0, 1, 2, 3, 4, 5, 26, 27, 28, 29, 6, 7, 8, 9, 10, 11, 12, 13, 14, 15, 16, 17, 18, 19, 20, 21, 22, 23, 24, 25] rfl rfl
    exact fin_v ((sn - (1 : Int32)), db_8, de_9, df_10, dc_11, dp_12, dk_13) hx hb hr hlocks hK hS hP hD hw dX3_restoreLatest_31
  · have hw := hw.2.2.1 hc
    refine W.eq (g2 := F0 m 28 ls [.ref qs2, .ref qd]) (by rw [hc]; rfl) ?_
    refine kc_v (kr_V [] ⟨hx, hb, hml, hown, hts⟩ (cn_X1_copyFrom l G qd qdb qde qdf qs2 qs2b qs2e qs2f db de df dc dp dk (sb 2) (se 2) (sf 2) (sc 2) (sp 2) (sk 2) hw H.size) (cwV 1 hts gX3_restoreLatest_X1_copyFrom rfl rfl rfl (by decide +kernel) ⟨Nat.le_of_ble_eq_true rfl, Nat.le_of_ble_eq_true rfl⟩) hK hG hP hD hS hA [26, 27, 28, 29, 10, 11, 12, 13] rfl rfl 1 26 rfl rfl rfl hl.1 rfl (Nat.le_of_ble_eq_true rfl) dX3_restoreLatest_28 ⟨Nat.le_of_ble_eq_true rfl, Nat.le_of_ble_eq_true rfl⟩) hP hD hS hA [26, 27, 28, 29, 10, 11, 12, 13] [0, 1, 2, 3, 4, 5, 6, 7, 8, 9, 14, 15, 16, 17, 18, 19, 20, 21, 22, 23, 24, 25] rfl rfl rfl (by decide) (fun u H locs hw hP hD hS => ?_)
    obtain ⟨db_14, de_15, df_16, dc_17, dp_18, dk_19⟩ := u
    try dsimp only at hw
    have hP := hP.sub (ws' := (w0_X3_restoreLatest G qs qsa qs0 qs0b qs0e qs0f qs1 qs1b qs1e qs1f qs2 qs2b qs2e qs2f qs3 qs3b qs3e qs3f qs4 qs4b qs4e qs4f qs5 qs5b qs5e qs5f qd qdb qde qdf so (sn - (1 : Int32)) sb se sf sc sp sk db_14 de_15 df_16 dc_17 dp_18 dk_19)) [0, 1, 2, 3, 4, 5, 6, 7, 8, 9, 26, 27, 28, 29, 10, 11, 12, 13, 14, 15, 16, 17, 18, 19, 20, 21, 22, 23, 24, 25] rfl
    have hD := hD.sub (ws' := (w0_X3_restoreLatest G qs qsa qs0 qs0b qs0e qs0f qs1 qs1b qs1e qs1f qs2 qs2b qs2e qs2f qs3 qs3b qs3e qs3f qs4 qs4b qs4e qs4f qs5 qs5b qs5e qs5f qd qdb qde qdf so (sn - (1 : Int32)) sb se sf sc sp sk db_14 de_15 df_16 dc_17 dp_18 dk_19)) [0, 1, 2, 3, 4, 5, 6, 7, 8, 9, 26, 27, 28, 29, 10, 11, 12, 13, 14, 15, 16, 17, 18, 19, 20, 21, 22, 23, 24, 25] rfl rfl
    exact fin_v ((sn - (1 : Int32)), db_14, de_15, df_16, dc_17, dp_18, dk_19) hx hb hr hlocks hK hS hP hD hw dX3_restoreLatest_31
  · have hw := hw.2.2.2.1 hc
    refine W.eq (g2 := F0 m 28 ls [.ref qs3, .ref qd]) (by rw [hc]; rfl) ?_
    refine kc_v (kr_V [] ⟨hx, hb, hml, hown, hts⟩ (cn_X1_copyFrom l G qd qdb qde qdf qs3 qs3b qs3e qs3f db de df dc dp dk (sb 3) (se 3) (sf 3) (sc 3) (sp 3) (sk 3) hw H.size) (cwV 1 hts gX3_restoreLatest_X1_copyFrom rfl rfl rfl (by decide +kernel) ⟨Nat.le_of_ble_eq_true rfl, Nat.le_of_ble_eq_true rfl⟩) hK hG hP hD hS hA [26, 27, 28, 29, 14, 15, 16, 17] rfl rfl 1 26 rfl rfl rfl hl.1 rfl (Nat.le_of_ble_eq_true rfl) dX3_restoreLatest_28 ⟨Nat.le_of_ble_eq_true rfl, Nat.le_of_ble_eq_true rfl⟩) hP hD hS hA [26, 27, 28, 29, 14, 15, 16, 17] [0, 1, 2, 3, 4, 5, 6, 7, 8, 9, 10, 11, 12, 13, 18, 19, 20, 21, 22, 23, 24, 25] rfl rfl rfl (by decide) (fun u H locs hw hP hD hS => ?_)
    obtain ⟨db_20, de_21, df_22, dc_23, dp_24, dk_25⟩ := u
    try dsimp only at hw
    have hP := hP.sub (ws' := (w0_X3_restoreLatest G qs qsa qs0 qs0b qs0e qs0f qs1 qs1b qs1e qs1f qs2 qs2b qs2e qs2f qs3 qs3b qs3e qs3f qs4 qs4b qs4e qs4f qs5 qs5b qs5e qs5f qd qdb qde qdf so (sn - (1 : Int32)) sb se sf sc sp sk db_20 de_21 df_22 dc_23 dp_24 dk_25)) [0, 1, 2, 3, 4, 5, 6, 7, 8, 9, 10, 11, 12, 13, 26, 27, 28, 29, 14, 15, 16, 17, 18, 19, 20, 21, 22, 23, 24, 25] rfl
    have hD := hD.sub (ws' := (w0_X3_restoreLatest G qs qsa qs0 qs0b qs0e qs0f qs1 qs1b qs1e qs1f qs2 qs2b qs2e qs2f qs3 qs3b qs3e qs3f qs4 qs4b qs4e qs4f qs5 qs5b qs5e qs5f qd qdb qde qdf so (sn - (1 : Int32)) sb se sf sc sp sk db_20 de_21 df_22 dc_23 dp_24 dk_25)) [0, 1, 2, 3, 4, 5, 6, 7, 8, 9, 10, 11, 12, 13, 26, 27, 28, 29, 14, 15, 16, 17, 18, 19, 20, 21, 22, 23, 24, 25] rfl rfl
    exact fin_v ((sn - (1 : Int32)), db_20, de_21, df_22, dc_23, dp_24, dk_25) hx hb hr hlocks hK hS hP hD hw dX3_restoreLatest_31
  · have hw := hw.2.2.2.2.1 hc
    refine W.eq (g2 := F0 m 28 ls [.ref qs4, .ref qd]) (by rw [hc]; rfl) ?_
    refine kc_v (kr_V [] ⟨hx, hb, hml, hown, hts⟩ (cn_X1_copyFrom l G qd qdb qde qdf qs4 qs4b qs4e qs4f db de df dc dp dk (sb 4) (se 4) (sf 4) (sc 4) (sp 4) (sk 4) hw H.size) (cwV 1 hts gX3_restoreLatest_X1_copyFrom rfl rfl rfl (by decide +kernel) ⟨Nat.le_of_ble_eq_true rfl, Nat.le_of_ble_eq_true rfl⟩) hK hG hP hD hS hA [26, 27, 28, 29, 18, 19, 20, 21] rfl rfl 1 26 rfl rfl rfl hl.1 rfl (Nat.le_of_ble_eq_true rfl) dX3_restoreLatest_28 ⟨Nat.le_of_ble_eq_true rfl, Nat.le_of_ble_eq_true rfl⟩) hP hD hS hA [26, 27, 28, 29, 18, 19, 20, 21] [0, 1, 2, 3, 4, 5, 6, 7, 8, 9, 10, 11, 12, 13, 14, 15, 16, 17, 22, 23, 24, 25] rfl rfl rfl (by decide) (fun u H locs hw hP hD hS => ?_)
    obtain ⟨db_26, de_27, df_28, dc_29, dp_30, dk_31⟩ := u
    try dsimp only at hw
    have hP := hP.sub (ws' := (w0_X3_restoreLatest G qs qsa qs0 qs0b qs0e qs0f qs1 qs1b qs1e qs1f qs2 qs2b qs2e qs2f qs3 qs3b qs3e qs3f qs4 qs4b qs4e qs4f qs5 qs5b qs5e qs5f qd qdb qde qdf so (sn - (1 : Int32)) sb se sf sc sp sk db_26 de_27 df_28 dc_29 dp_30 dk_31)) [0, 1, 2, 3, 4, 5, 6, 7, 8, 9, 10, 11, 12, 13, 14, 15, 16, 17, 26, 27, 28, 29, 18, 19, 20, 21, 22, 23, 24, 25] rfl
    have hD := hD.sub (ws' := (w0_X3_restoreLatest G qs qsa qs0 qs0b qs0e qs0f qs1 qs1b qs1e qs1f qs2 qs2b qs2e qs2f qs3 qs3b qs3e qs3f qs4 qs4b qs4e qs4f qs5 qs5b qs5e qs5f qd qdb qde qdf so (sn - (1 : Int32)) sb se sf sc sp sk db_26 de_27 df_28 dc_29 dp_30 dk_31)) [0, 1, 2, 3, 4, 5, 6, 7, 8, 9, 10, 11, 12, 13, 14, 15, 16, 17, 26, 27, 28, 29, 18, 19, 20, 21, 22, 23, 24, 25] rfl rfl
    exact fin_v ((sn - (1 : Int32)), db_26, de_27, df_28, dc_29, dp_30, dk_31) hx hb hr hlocks hK hS hP hD hw dX3_restoreLatest_31
  · have hw := hw.2.2.2.2.2 hc
    refine W.eq (g2 := F0 m 28 ls [.ref qs5, .ref qd]) (by rw [hc]; rfl) ?_
    refine kc_v (kr_V [] ⟨hx, hb, hml, hown, hts⟩ (cn_X1_copyFrom l G qd qdb qde qdf qs5 qs5b qs5e qs5f db de df dc dp dk (sb 5) (se 5) (sf 5) (sc 5) (sp 5) (sk 5) hw H.size) (cwV 1 hts gX3_restoreLatest_X1_copyFrom rfl rfl rfl (by decide +kernel) ⟨Nat.le_of_ble_eq_true rfl, Nat.le_of_ble_eq_true rfl⟩) hK hG hP hD hS hA [26, 27, 28, 29, 22, 23, 24, 25] rfl rfl 1 26 rfl rfl rfl hl.1 rfl (Nat.le_of_ble_eq_true rfl) dX3_restoreLatest_28 ⟨Nat.le_of_ble_eq_true rfl, Nat.le_of_ble_eq_true rfl⟩) hP hD hS hA [26, 27, 28, 29, 22, 23, 24, 25] [0, 1, 2, 3, 4, 5, 6, 7, 8, 9, 10, 11, 12, 13, 14, 15, 16, 17, 18, 19, 20, 21] rfl rfl rfl (by decide) (fun u H locs hw hP hD hS => ?_)
    obtain ⟨db_32, de_33, df_34, dc_35, dp_36, dk_37⟩ := u
    try dsimp only at hw
    have hP := hP.sub (ws' := (w0_X3_restoreLatest G qs qsa qs0 qs0b qs0e qs0f qs1 qs1b qs1e qs1f qs2 qs2b qs2e qs2f qs3 qs3b qs3e qs3f qs4 qs4b qs4e qs4f qs5 qs5b qs5e qs5f qd qdb qde qdf so (sn - (1 : Int32)) sb se sf sc sp sk db_32 de_33 df_34 dc_35 dp_36 dk_37)) [0, 1, 2, 3, 4, 5, 6, 7, 8, 9, 10, 11, 12, 13, 14, 15, 16, 17, 18, 19, 20, 21, 26, 27, 28, 29, 22, 23, 24, 25] rfl
    have hD := hD.sub (ws' := (w0_X3_restoreLatest G qs qsa qs0 qs0b qs0e qs0f qs1 qs1b qs1e qs1f qs2 qs2b qs2e qs2f qs3 qs3b qs3e qs3f qs4 qs4b qs4e qs4f qs5 qs5b qs5e qs5f qd qdb qde qdf so (sn - (1 : Int32)) sb se sf sc sp sk db_32 de_33 df_34 dc_35 dp_36 dk_37)) [0, 1, 2, 3, 4, 5, 6, 7, 8, 9, 10, 11, 12, 13, 14, 15, 16, 17, 18, 19, 20, 21, 26, 27, 28, 29, 22, 23, 24, 25] rfl rfl
    exact fin_v ((sn - (1 : Int32)), db_32, de_33, df_34, dc_35, dp_36, dk_37) hx hb hr hlocks hK hS hP hD hw dX3_restoreLatest_31

abbrev w0_X4_put (G : mG) (qt : Nat) (qtc : Nat) (qtn : Nat) (tc : Nat → Int32) (tl : Int32) (tn : Nat → Int32) (tf : Int32) (tv : Int32) : va_W := [(qt, .inr (4, [.ref qtc, .int tl, .ref qtn, .int tf, .int tv])), (qtc, .inl (gI G, (60, .inl tc))), (qtn, .inl (gI G, (60, .inl tn)))]
set_option maxRecDepth 100000 in
theorem k_X4_put_inX4 : ∀ w ∈ u_ws RX4 TX4 5, w ∈ wsX4_put := by decide +kernel
set_option maxRecDepth 100000 in
theorem k_X4_put_f9 : Cond.fieldLink RX4 9 "RehearsalRoom$Text" "codes" "[I" ∈ wsX4_put := by decide +kernel
set_option maxRecDepth 100000 in
theorem k_X4_put_f15 : Cond.fieldLink RX4 15 "RehearsalRoom$Text" "length" "I" ∈ wsX4_put := by decide +kernel
set_option maxHeartbeats 8000000 in
set_option maxRecDepth 100000 in
theorem cn_X4_put (l : Launch) (G : mG) (qt : Nat) (qtc : Nat) (qtn : Nat) (tc : Nat → Int32) (tl : Int32) (tn : Nat → Int32) (tf : Int32) (tv : Int32) (a1 : Int32) {Q : (Nat → Int32) → Int32 → Prop} (hw : wn_X4_put tc tl a1 Q) (sz : Nat) :
    Met l yX4_put wsX4_put ({ frames := 0, cells := 0, slots := 0, locals := 0 } : Room) (va_Pc [.ref qt, .int a1] (mPre G (w0_X4_put G qt qtc qtn tc tl tn tf tv) sz)) (va_Qv (fun (u : (Nat → Int32) × Int32) => Q u.1 u.2) (mBk G (va_A (w0_X4_put G qt qtc qtn tc tl tn tf tv) sz) (fun (u : (Nat → Int32) × Int32) => (w0_X4_put G qt qtc qtn u.1 u.2 tn tf tv))) (va_A (w0_X4_put G qt qtc qtn tc tl tn tf tv) sz)) 0 0 (va_A (w0_X4_put G qt qtc qtn tc tl tn tf tv) sz) := by
  refine ms_v (cc := cX4_put) (maxL := 2) (ret := none) (post := (fun (u : (Nat → Int32) × Int32) => Q u.1 u.2)) (w1 := (fun (u : (Nat → Int32) × Int32) => (w0_X4_put G qt qtc qtn u.1 u.2 tn tf tv))) (by decide) rfl (Nat.le_of_ble_eq_true rfl) ?_ sz
  intro p e s m below meth c A ls H locs hx hb hr hml hown hts hlocks hK hG hP hD hS hA hl
  have hown : s.vm.findClass RX4 = some m.cls := hown
  have hl : lv_has ls 2 [(0, .ref qt), (1, .int a1)] := hl
  unfold wn_X4_put at hw
  refine lv_aload_n hx hb dX4_put_0 rfl (lv_at hl 0 rfl) ?_
  refine va_get (D := gD G) (ci := 4) (v := .ref qtc) (C := RX4) (T := TX4) (N := 5) hx hb hts k_X4_put_inX4 hown hK hP 0 rfl rfl 0 (by decide) (hts _ k_X4_put_f9) (fun _ h9 => h9) rfl dX4_put_1 ?_
  refine lv_aload_n hx hb dX4_put_4 rfl (lv_at hl 0 rfl) ?_
  refine va_get (D := gD G) (ci := 4) (v := .int tl) (C := RX4) (T := TX4) (N := 5) hx hb hts k_X4_put_inX4 hown hK hP 0 rfl rfl 1 (by decide) (hts _ k_X4_put_f15) (fun _ h9 => h9) rfl dX4_put_5 ?_
  refine lv_iload_n hx hb dX4_put_8 rfl (lv_at hl 1 rfl) ?_
  obtain ⟨h1, hw⟩ := hw
  refine va_iast hx hb hK hP hD hS 1 0 rfl rfl h1 dX4_put_9 (fun H locs hP hD hS => ?_)
  have hP : va_P (gD G) vwCl (w0_X4_put G qt qtc qtn (upd tc tl.toNatClampNeg a1) tl tn tf tv) H := hP
  have hD : va_D A (w0_X4_put G qt qtc qtn (upd tc tl.toNatClampNeg a1) tl tn tf tv) := hD
  refine lv_aload_n hx hb dX4_put_10 rfl (lv_at hl 0 rfl) ?_
  refine lv_dup hx hb dX4_put_11 rfl ?_
  refine va_get (D := gD G) (ci := 4) (v := .int tl) (C := RX4) (T := TX4) (N := 5) hx hb hts k_X4_put_inX4 hown hK hP 0 rfl rfl 1 (by decide) (hts _ k_X4_put_f15) (fun _ h9 => h9) rfl dX4_put_12 ?_
  refine lv_iconst (v := 1) hx hb dX4_put_15 (by decide) ?_
  refine lv_iadd hx hb dX4_put_16 ?_
  refine va_put (D := gD G) (ci := 4) (v := .int (tl + (1 : Int32))) (ty := .int) (C := RX4) (T := TX4) (N := 5) hx hb hts k_X4_put_inX4 tyX4 tyX4_ok nmX4 hown hK hP hD hS 0 rfl rfl 1 (by decide) (hts _ k_X4_put_f15) (fun _ h9 => h9) rfl (by decide +kernel) rfl rfl (Nat.le_of_ble_eq_true rfl) dX4_put_17 (fun H locs hP hD hS => ?_)
  have hP : va_P (gD G) vwCl (w0_X4_put G qt qtc qtn (upd tc tl.toNatClampNeg a1) (tl + (1 : Int32)) tn tf tv) H := hP
  have hD : va_D A (w0_X4_put G qt qtc qtn (upd tc tl.toNatClampNeg a1) (tl + (1 : Int32)) tn tf tv) := hD
  exact fin_v ((upd tc tl.toNatClampNeg a1), (tl + (1 : Int32))) hx hb hr hlocks hK hS hP hD hw dX4_put_20

abbrev w0_X4_kind (G : mG) (qt : Nat) (qtc : Nat) (qtn : Nat) (tc : Nat → Int32) (tl : Int32) (tn : Nat → Int32) (tf : Int32) (tv : Int32) : va_W := [(qt, .inr (4, [.ref qtc, .int tl, .ref qtn, .int tf, .int tv])), (qtc, .inl (gI G, (60, .inl tc))), (qtn, .inl (gI G, (60, .inl tn)))]
set_option maxRecDepth 100000 in
theorem k_X4_kind_inX4 : ∀ w ∈ u_ws RX4 TX4 5, w ∈ wsX4_kind := by decide +kernel
set_option maxRecDepth 100000 in
theorem k_X4_kind_f22 : Cond.fieldLink RX4 22 "RehearsalRoom$Text" "finished" "I" ∈ wsX4_kind := by decide +kernel
set_option maxHeartbeats 8000000 in
set_option maxRecDepth 100000 in
theorem cn_X4_kind (l : Launch) (G : mG) (qt : Nat) (qtc : Nat) (qtn : Nat) (tc : Nat → Int32) (tl : Int32) (tn : Nat → Int32) (tf : Int32) (tv : Int32) {Q : Int32 → Prop} (hw : wn_X4_kind tf Q) (sz : Nat) :
    Met l yX4_kind wsX4_kind ({ frames := 0, cells := 0, slots := 0, locals := 0 } : Room) (va_Pc [.ref qt] (mPre G (w0_X4_kind G qt qtc qtn tc tl tn tf tv) sz)) (va_Qi (fun (r : Int32) (u : Unit) => Q r) (mBk G (va_A (w0_X4_kind G qt qtc qtn tc tl tn tf tv) sz) (fun (u : Unit) => (w0_X4_kind G qt qtc qtn tc tl tn tf tv))) (va_A (w0_X4_kind G qt qtc qtn tc tl tn tf tv) sz)) 0 0 (va_A (w0_X4_kind G qt qtc qtn tc tl tn tf tv) sz) := by
  refine ms_i (cc := cX4_kind) (maxL := 1) (ret := some .int) (post := (fun (r : Int32) (u : Unit) => Q r)) (w1 := (fun (u : Unit) => (w0_X4_kind G qt qtc qtn tc tl tn tf tv))) (by decide) rfl (Nat.le_of_ble_eq_true rfl) ?_ sz
  intro p e s m below meth c A ls H locs hx hb hr hml hown hts hlocks hK hG hP hD hS hA hl
  have hown : s.vm.findClass RX4 = some m.cls := hown
  have hl : lv_has ls 1 [(0, .ref qt)] := hl
  unfold wn_X4_kind at hw
  refine lv_aload_n hx hb dX4_kind_0 rfl (lv_at hl 0 rfl) ?_
  refine va_get (D := gD G) (ci := 4) (v := .int tf) (C := RX4) (T := TX4) (N := 5) hx hb hts k_X4_kind_inX4 hown hK hP 0 rfl rfl 3 (by decide) (hts _ k_X4_kind_f22) (fun _ h9 => h9) rfl dX4_kind_1 ?_
  refine lv_iconst (v := 3) hx hb dX4_kind_4 (by decide) ?_
  refine lv_irem hx hb dX4_kind_5 (by decide) ?_
  exact fin_i () hx hb hr hlocks hK hS hP hD hw dX4_kind_6

abbrev w0_X4_finishNumber (G : mG) (qt : Nat) (qtc : Nat) (qtn : Nat) (tc : Nat → Int32) (tl : Int32) (tn : Nat → Int32) (tf : Int32) (tv : Int32) : va_W := [(qt, .inr (4, [.ref qtc, .int tl, .ref qtn, .int tf, .int tv])), (qtc, .inl (gI G, (60, .inl tc))), (qtn, .inl (gI G, (60, .inl tn)))]
set_option maxRecDepth 100000 in
theorem k_X4_finishNumber_inX4 : ∀ w ∈ u_ws RX4 TX4 5, w ∈ wsX4_finishNumber := by decide +kernel
set_option maxRecDepth 100000 in
theorem k_X4_finishNumber_f22 : Cond.fieldLink RX4 22 "RehearsalRoom$Text" "finished" "I" ∈ wsX4_finishNumber := by decide +kernel
set_option maxRecDepth 100000 in
theorem k_X4_finishNumber_f19 : Cond.fieldLink RX4 19 "RehearsalRoom$Text" "numbers" "[I" ∈ wsX4_finishNumber := by decide +kernel
set_option maxRecDepth 100000 in
theorem k_X4_finishNumber_f25 : Cond.fieldLink RX4 25 "RehearsalRoom$Text" "value" "I" ∈ wsX4_finishNumber := by decide +kernel
set_option maxHeartbeats 8000000 in
set_option maxRecDepth 100000 in
theorem cn_X4_finishNumber (l : Launch) (G : mG) (qt : Nat) (qtc : Nat) (qtn : Nat) (tc : Nat → Int32) (tl : Int32) (tn : Nat → Int32) (tf : Int32) (tv : Int32) {Q : (Nat → Int32) → Int32 → Int32 → Prop} (hw : wn_X4_finishNumber tn tf tv Q) (sz : Nat) :
    Met l yX4_finishNumber wsX4_finishNumber ({ frames := 0, cells := 0, slots := 0, locals := 0 } : Room) (va_Pc [.ref qt] (mPre G (w0_X4_finishNumber G qt qtc qtn tc tl tn tf tv) sz)) (va_Qv (fun (u : (Nat → Int32) × Int32 × Int32) => Q u.1 u.2.1 u.2.2) (mBk G (va_A (w0_X4_finishNumber G qt qtc qtn tc tl tn tf tv) sz) (fun (u : (Nat → Int32) × Int32 × Int32) => (w0_X4_finishNumber G qt qtc qtn tc tl u.1 u.2.1 u.2.2))) (va_A (w0_X4_finishNumber G qt qtc qtn tc tl tn tf tv) sz)) 0 0 (va_A (w0_X4_finishNumber G qt qtc qtn tc tl tn tf tv) sz) := by
  refine ms_v (cc := cX4_finishNumber) (maxL := 1) (ret := none) (post := (fun (u : (Nat → Int32) × Int32 × Int32) => Q u.1 u.2.1 u.2.2)) (w1 := (fun (u : (Nat → Int32) × Int32 × Int32) => (w0_X4_finishNumber G qt qtc qtn tc tl u.1 u.2.1 u.2.2))) (by decide) rfl (Nat.le_of_ble_eq_true rfl) ?_ sz
  intro p e s m below meth c A ls H locs hx hb hr hml hown hts hlocks hK hG hP hD hS hA hl
  have hown : s.vm.findClass RX4 = some m.cls := hown
  have hl : lv_has ls 1 [(0, .ref qt)] := hl
  have J35 : ∀ (tn : Nat → Int32) (tf : Int32) (tv : Int32) (H : Heap) (locs : List Loc) (ls : Array Slot), va_P (gD G) vwCl (w0_X4_finishNumber G qt qtc qtn tc tl tn tf tv) H → va_D A (w0_X4_finishNumber G qt qtc qtn tc tl tn tf tv) → va_S A s.heap H locs → lv_has ls 1 [(0, .ref qt)] → wj_n_X4_finishNumber_35 Q tn tf tv → W p l e ({ frames := 0, cells := 0, slots := 0, locals := 0 } : Room) s m ([.ref qt] : List Value).toArray below meth c H locs 0 0 (MQ below (va_Qv (fun (u : (Nat → Int32) × Int32 × Int32) => Q u.1 u.2.1 u.2.2) (mBk G A (fun (u : (Nat → Int32) × Int32 × Int32) => (w0_X4_finishNumber G qt qtc qtn tc tl u.1 u.2.1 u.2.2))) A) ([.ref qt] : List Value).toArray s 0 0 A) (F0 m 35 ls []) := by
    intro tn tf tv H locs ls hP hD hS hl hw
    unfold wj_n_X4_finishNumber_35 at hw
    refine lv_aload_n hx hb dX4_finishNumber_35 rfl (lv_at hl 0 rfl) ?_
    refine lv_iconst (v := -1) hx hb dX4_finishNumber_36 (by decide) ?_
    refine va_put (D := gD G) (ci := 4) (v := .int (-1 : Int32)) (ty := .int) (C := RX4) (T := TX4) (N := 5) hx hb hts k_X4_finishNumber_inX4 tyX4 tyX4_ok nmX4 hown hK hP hD hS 0 rfl rfl 4 (by decide) (hts _ k_X4_finishNumber_f25) (fun _ h9 => h9) rfl (by decide +kernel) rfl rfl (Nat.le_of_ble_eq_true rfl) dX4_finishNumber_37 (fun H locs hP hD hS => ?_)
    have hP : va_P (gD G) vwCl (w0_X4_finishNumber G qt qtc qtn tc tl tn tf (-1 : Int32)) H := hP
    have hD : va_D A (w0_X4_finishNumber G qt qtc qtn tc tl tn tf (-1 : Int32)) := hD
    exact fin_v (tn, tf, (-1 : Int32)) hx hb hr hlocks hK hS hP hD hw dX4_finishNumber_40
  unfold wn_X4_finishNumber at hw
  refine lv_aload_n hx hb dX4_finishNumber_0 rfl (lv_at hl 0 rfl) ?_
  refine va_get (D := gD G) (ci := 4) (v := .int tf) (C := RX4) (T := TX4) (N := 5) hx hb hts k_X4_finishNumber_inX4 hown hK hP 0 rfl rfl 3 (by decide) (hts _ k_X4_finishNumber_f22) (fun _ h9 => h9) rfl dX4_finishNumber_1 ?_
  refine lv_aload_n hx hb dX4_finishNumber_4 rfl (lv_at hl 0 rfl) ?_
  refine va_get (D := gD G) (ci := 4) (v := .ref qtn) (C := RX4) (T := TX4) (N := 5) hx hb hts k_X4_finishNumber_inX4 hown hK hP 0 rfl rfl 2 (by decide) (hts _ k_X4_finishNumber_f19) (fun _ h9 => h9) rfl dX4_finishNumber_5 ?_
  refine va_alen hx hb hK hP 2 0 rfl rfl (v := 60) rfl dX4_finishNumber_8 ?_
  refine lv_icmp_ge (tgt := 35) hx hb dX4_finishNumber_9 (by decide) (fun cd1 => ?_) (fun cd1 => ?_)
  · have hw := hw.1 cd1
    exact J35 tn tf tv _ _ _ hP hD hS hl hw
  · have hw := hw.2 cd1
    refine lv_aload_n hx hb dX4_finishNumber_12 rfl (lv_at hl 0 rfl) ?_
    refine va_get (D := gD G) (ci := 4) (v := .ref qtn) (C := RX4) (T := TX4) (N := 5) hx hb hts k_X4_finishNumber_inX4 hown hK hP 0 rfl rfl 2 (by decide) (hts _ k_X4_finishNumber_f19) (fun _ h9 => h9) rfl dX4_finishNumber_13 ?_
    refine lv_aload_n hx hb dX4_finishNumber_16 rfl (lv_at hl 0 rfl) ?_
    refine va_get (D := gD G) (ci := 4) (v := .int tf) (C := RX4) (T := TX4) (N := 5) hx hb hts k_X4_finishNumber_inX4 hown hK hP 0 rfl rfl 3 (by decide) (hts _ k_X4_finishNumber_f22) (fun _ h9 => h9) rfl dX4_finishNumber_17 ?_
    refine lv_aload_n hx hb dX4_finishNumber_20 rfl (lv_at hl 0 rfl) ?_
    refine va_get (D := gD G) (ci := 4) (v := .int tv) (C := RX4) (T := TX4) (N := 5) hx hb hts k_X4_finishNumber_inX4 hown hK hP 0 rfl rfl 4 (by decide) (hts _ k_X4_finishNumber_f25) (fun _ h9 => h9) rfl dX4_finishNumber_21 ?_
    obtain ⟨h2, hw⟩ := hw
    refine va_iast hx hb hK hP hD hS 2 0 rfl rfl h2 dX4_finishNumber_24 (fun H locs hP hD hS => ?_)
    have hP : va_P (gD G) vwCl (w0_X4_finishNumber G qt qtc qtn tc tl (upd tn tf.toNatClampNeg tv) tf tv) H := hP
    have hD : va_D A (w0_X4_finishNumber G qt qtc qtn tc tl (upd tn tf.toNatClampNeg tv) tf tv) := hD
    refine lv_aload_n hx hb dX4_finishNumber_25 rfl (lv_at hl 0 rfl) ?_
    refine lv_dup hx hb dX4_finishNumber_26 rfl ?_
    refine va_get (D := gD G) (ci := 4) (v := .int tf) (C := RX4) (T := TX4) (N := 5) hx hb hts k_X4_finishNumber_inX4 hown hK hP 0 rfl rfl 3 (by decide) (hts _ k_X4_finishNumber_f22) (fun _ h9 => h9) rfl dX4_finishNumber_27 ?_
    refine lv_iconst (v := 1) hx hb dX4_finishNumber_30 (by decide) ?_
    refine lv_iadd hx hb dX4_finishNumber_31 ?_
    refine va_put (D := gD G) (ci := 4) (v := .int (tf + (1 : Int32))) (ty := .int) (C := RX4) (T := TX4) (N := 5) hx hb hts k_X4_finishNumber_inX4 tyX4 tyX4_ok nmX4 hown hK hP hD hS 0 rfl rfl 3 (by decide) (hts _ k_X4_finishNumber_f22) (fun _ h9 => h9) rfl (by decide +kernel) rfl rfl (Nat.le_of_ble_eq_true rfl) dX4_finishNumber_32 (fun H locs hP hD hS => ?_)
    have hP : va_P (gD G) vwCl (w0_X4_finishNumber G qt qtc qtn tc tl (upd tn tf.toNatClampNeg tv) (tf + (1 : Int32)) tv) H := hP
    have hD : va_D A (w0_X4_finishNumber G qt qtc qtn tc tl (upd tn tf.toNatClampNeg tv) (tf + (1 : Int32)) tv) := hD
    exact J35 (upd tn tf.toNatClampNeg tv) (tf + (1 : Int32)) tv _ _ _ hP hD hS hl hw

abbrev w0_X4_takesDigit (G : mG) (qt : Nat) (qtc : Nat) (qtn : Nat) (tc : Nat → Int32) (tl : Int32) (tn : Nat → Int32) (tf : Int32) (tv : Int32) : va_W := [(qt, .inr (4, [.ref qtc, .int tl, .ref qtn, .int tf, .int tv])), (qtc, .inl (gI G, (60, .inl tc))), (qtn, .inl (gI G, (60, .inl tn)))]
set_option maxRecDepth 100000 in
theorem k_X4_takesDigit_inX4 : ∀ w ∈ u_ws RX4 TX4 5, w ∈ wsX4_takesDigit := by decide +kernel
set_option maxRecDepth 100000 in
theorem k_X4_takesDigit_f25 : Cond.fieldLink RX4 25 "RehearsalRoom$Text" "value" "I" ∈ wsX4_takesDigit := by decide +kernel
set_option maxRecDepth 100000 in
theorem k_X4_takesDigit_f46 : Cond.fieldLink RX4 46 "RehearsalRoom$Text" "GREATEST" "[I" ∈ wsX4_takesDigit := by decide +kernel
set_option maxHeartbeats 8000000 in
set_option maxRecDepth 100000 in
theorem cn_X4_takesDigit (l : Launch) (G : mG) (qt : Nat) (qtc : Nat) (qtn : Nat) (tc : Nat → Int32) (tl : Int32) (tn : Nat → Int32) (tf : Int32) (tv : Int32) (a1 : Int32) {Q : Int32 → Int32 → Prop} (hw : wn_X4_takesDigit tf tv a1 Q) (sz : Nat) :
    Met l yX4_takesDigit wsX4_takesDigit ({ frames := 1, cells := 0, slots := 0, locals := 20 } : Room) (va_Pc [.ref qt, .int a1] (mPre G (w0_X4_takesDigit G qt qtc qtn tc tl tn tf tv) sz)) (va_Qi (fun (r : Int32) (u : Int32) => (r = 0 ∨ r = 1) ∧ Q r u) (mBk G (va_A (w0_X4_takesDigit G qt qtc qtn tc tl tn tf tv) sz) (fun (u : Int32) => (w0_X4_takesDigit G qt qtc qtn tc tl tn tf u))) (va_A (w0_X4_takesDigit G qt qtc qtn tc tl tn tf tv) sz)) 0 0 (va_A (w0_X4_takesDigit G qt qtc qtn tc tl tn tf tv) sz) := by
  refine ms_i (cc := cX4_takesDigit) (maxL := 3) (ret := some .boolean) (post := (fun (r : Int32) (u : Int32) => (r = 0 ∨ r = 1) ∧ Q r u)) (w1 := (fun (u : Int32) => (w0_X4_takesDigit G qt qtc qtn tc tl tn tf u))) (by decide) rfl (Nat.le_of_ble_eq_true rfl) ?_ sz
  intro p e s m below meth c A ls H locs hx hb hr hml hown hts hlocks hK hG hP hD hS hA hl
  have hown : s.vm.findClass RX4 = some m.cls := hown
  have hl : lv_has ls 3 [(0, .ref qt), (1, .int a1)] := hl
  have J42 : ∀ (tv : Int32) (x1 : Int32) (y0 : Int32) (H : Heap) (locs : List Loc) (ls : Array Slot), (y0 = 0 ∨ y0 = 1) → va_P (gD G) vwCl (w0_X4_takesDigit G qt qtc qtn tc tl tn tf tv) H → va_D A (w0_X4_takesDigit G qt qtc qtn tc tl tn tf tv) → va_S A s.heap H locs → lv_has ls 3 [(0, .ref qt), (1, .int x1)] → wj_n_X4_takesDigit_42 tf Q tv x1 y0 → W p l e ({ frames := 1, cells := 0, slots := 0, locals := 20 } : Room) s m ([.ref qt, .int a1] : List Value).toArray below meth c H locs 0 0 (MQ below (va_Qi (fun (r : Int32) (u : Int32) => (r = 0 ∨ r = 1) ∧ Q r u) (mBk G A (fun (u : Int32) => (w0_X4_takesDigit G qt qtc qtn tc tl tn tf u))) A) ([.ref qt, .int a1] : List Value).toArray s 0 0 A) (F0 m 42 ls [.int y0]) := by
    intro tv x1 y0 H locs ls hz_y0 hP hD hS hl hw
    unfold wj_n_X4_takesDigit_42 at hw
    refine lv_istore_n (lv' := [(2, .int y0), (0, .ref qt), (1, .int x1)]) hx hb dX4_takesDigit_42 rfl hl (by decide) rfl (fun ls hl => ?_)
    refine lv_aload_n hx hb dX4_takesDigit_43 rfl (lv_at hl 1 rfl) ?_
    refine lv_bipush (v := 10) hx hb dX4_takesDigit_44 (by decide) ?_
    refine lv_aload_n hx hb dX4_takesDigit_46 rfl (lv_at hl 1 rfl) ?_
    refine va_get (D := gD G) (ci := 4) (v := .int tv) (C := RX4) (T := TX4) (N := 5) hx hb hts k_X4_takesDigit_inX4 hown hK hP 0 rfl rfl 4 (by decide) (hts _ k_X4_takesDigit_f25) (fun _ h9 => h9) rfl dX4_takesDigit_47 ?_
    refine lv_imul hx hb dX4_takesDigit_50 ?_
    refine lv_iload_n hx hb dX4_takesDigit_51 rfl (lv_at hl 2 rfl) ?_
    refine lv_iadd hx hb dX4_takesDigit_52 ?_
    refine va_put (D := gD G) (ci := 4) (v := .int (((10 : Int32) * tv) + x1)) (ty := .int) (C := RX4) (T := TX4) (N := 5) hx hb hts k_X4_takesDigit_inX4 tyX4 tyX4_ok nmX4 hown hK hP hD hS 0 rfl rfl 4 (by decide) (hts _ k_X4_takesDigit_f25) (fun _ h9 => h9) rfl (by decide +kernel) rfl rfl (Nat.le_of_ble_eq_true rfl) dX4_takesDigit_53 (fun H locs hP hD hS => ?_)
    have hP : va_P (gD G) vwCl (w0_X4_takesDigit G qt qtc qtn tc tl tn tf (((10 : Int32) * tv) + x1)) H := hP
    have hD : va_D A (w0_X4_takesDigit G qt qtc qtn tc tl tn tf (((10 : Int32) * tv) + x1)) := hD
    refine lv_iload_n hx hb dX4_takesDigit_56 rfl (lv_at hl 0 rfl) ?_
    refine lv_if_ne (tgt := 79) hx hb dX4_takesDigit_57 (by decide) (fun cd3 => ?_) (fun cd3 => ?_)
    · have hw := hw.1 cd3
      refine lv_iconst (v := 0) hx hb dX4_takesDigit_79 (by decide) ?_
      exact fin_z ((((10 : Int32) * tv) + x1)) hx hb hr (nz (Or.inl rfl)) hlocks hK hS hP hD ⟨(Or.inl rfl), hw⟩ dX4_takesDigit_80
    · have hw := hw.2 cd3
      refine lv_aload_n hx hb dX4_takesDigit_60 rfl (lv_at hl 1 rfl) ?_
      refine va_get (D := gD G) (ci := 4) (v := .int (((10 : Int32) * tv) + x1)) (C := RX4) (T := TX4) (N := 5) hx hb hts k_X4_takesDigit_inX4 hown hK hP 0 rfl rfl 4 (by decide) (hts _ k_X4_takesDigit_f25) (fun _ h9 => h9) rfl dX4_takesDigit_61 ?_
      refine va_gets (own := RX4) (ref := RX4) hx hb hG.2.1.1 hS hown (hts _ k_X4_takesDigit_f46) (fun _ h9 => h9) dX4_takesDigit_64 ?_
      refine lv_aload_n hx hb dX4_takesDigit_67 rfl (lv_at hl 1 rfl) ?_
      refine kcR_i (kr_V [.ref (gS1 G), .int (((10 : Int32) * tv) + x1)] ⟨hx, hb, hml, hown, hts⟩ (cn_X4_kind l G qt qtc qtn tc tl tn tf (((10 : Int32) * tv) + x1) hw H.size) (cwV 0 hts gX4_takesDigit_X4_kind rfl rfl rfl (by decide +kernel) ⟨Nat.le_of_ble_eq_true rfl, Nat.le_of_ble_eq_true rfl⟩) hK hG hP hD hS hA [0, 1, 2] rfl rfl 4 0 rfl rfl rfl hl.1 rfl (Nat.le_of_ble_eq_true rfl) dX4_takesDigit_68 ⟨Nat.le_of_ble_eq_true rfl, Nat.le_of_ble_eq_true rfl⟩) hP hD hS hA [0, 1, 2] rfl (fun r4 u H locs hw hP hS => ?_)
      try dsimp only at hw
      obtain ⟨h5, hw⟩ := hw
      refine va_ti (v := .int (gGr r4.toNatClampNeg)) hx hb hG.2.1.2 hS h5 rfl dX4_takesDigit_71 ?_
      refine lv_icmp_gt (tgt := 79) hx hb dX4_takesDigit_72 (by decide) (fun cd6 => ?_) (fun cd6 => ?_)
      · have hw := hw.1 cd6
        refine lv_iconst (v := 0) hx hb dX4_takesDigit_79 (by decide) ?_
        exact fin_z ((((10 : Int32) * tv) + x1)) hx hb hr (nz (Or.inl rfl)) hlocks hK hS hP hD ⟨(Or.inl rfl), hw⟩ dX4_takesDigit_80
      · have hw := hw.2 cd6
        refine lv_iconst (v := 1) hx hb dX4_takesDigit_75 (by decide) ?_
        refine lv_goto (tgt := 80) hx hb dX4_takesDigit_76 (by decide) ?_
        exact fin_z ((((10 : Int32) * tv) + x1)) hx hb hr (nz (Or.inr rfl)) hlocks hK hS hP hD ⟨(Or.inr rfl), hw⟩ dX4_takesDigit_80
  unfold wn_X4_takesDigit at hw
  refine lv_aload_n hx hb dX4_takesDigit_0 rfl (lv_at hl 0 rfl) ?_
  refine va_get (D := gD G) (ci := 4) (v := .int tv) (C := RX4) (T := TX4) (N := 5) hx hb hts k_X4_takesDigit_inX4 hown hK hP 0 rfl rfl 4 (by decide) (hts _ k_X4_takesDigit_f25) (fun _ h9 => h9) rfl dX4_takesDigit_1 ?_
  refine lv_iconst (v := -1) hx hb dX4_takesDigit_4 (by decide) ?_
  refine lv_icmp_ne (tgt := 30) hx hb dX4_takesDigit_5 (by decide) (fun cd1 => ?_) (fun cd1 => ?_)
  · have hw := hw.1 cd1
    refine lv_aload_n hx hb dX4_takesDigit_30 rfl (lv_at hl 0 rfl) ?_
    refine va_get (D := gD G) (ci := 4) (v := .int tv) (C := RX4) (T := TX4) (N := 5) hx hb hts k_X4_takesDigit_inX4 hown hK hP 0 rfl rfl 4 (by decide) (hts _ k_X4_takesDigit_f25) (fun _ h9 => h9) rfl dX4_takesDigit_31 ?_
    refine lv_if_ne (tgt := 41) hx hb dX4_takesDigit_34 (by decide) (fun cd2 => ?_) (fun cd2 => ?_)
    · have hw := hw.1 cd2
      refine lv_iconst (v := 0) hx hb dX4_takesDigit_41 (by decide) ?_
      exact J42 tv a1 (0 : Int32) _ _ _ (Or.inl rfl) hP hD hS hl hw
    · have hw := hw.2 cd2
      refine lv_iconst (v := 1) hx hb dX4_takesDigit_37 (by decide) ?_
      refine lv_goto (tgt := 42) hx hb dX4_takesDigit_38 (by decide) ?_
      exact J42 tv a1 (1 : Int32) _ _ _ (Or.inr rfl) hP hD hS hl hw
  · have hw := hw.2 cd1
    refine lv_aload_n hx hb dX4_takesDigit_8 rfl (lv_at hl 0 rfl) ?_
    refine lv_iload_n hx hb dX4_takesDigit_9 rfl (lv_at hl 1 rfl) ?_
    refine va_put (D := gD G) (ci := 4) (v := .int a1) (ty := .int) (C := RX4) (T := TX4) (N := 5) hx hb hts k_X4_takesDigit_inX4 tyX4 tyX4_ok nmX4 hown hK hP hD hS 0 rfl rfl 4 (by decide) (hts _ k_X4_takesDigit_f25) (fun _ h9 => h9) rfl (by decide +kernel) rfl rfl (Nat.le_of_ble_eq_true rfl) dX4_takesDigit_10 (fun H locs hP hD hS => ?_)
    have hP : va_P (gD G) vwCl (w0_X4_takesDigit G qt qtc qtn tc tl tn tf a1) H := hP
    have hD : va_D A (w0_X4_takesDigit G qt qtc qtn tc tl tn tf a1) := hD
    refine lv_iload_n hx hb dX4_takesDigit_13 rfl (lv_at hl 1 rfl) ?_
    refine lv_if_gt (tgt := 24) hx hb dX4_takesDigit_14 (by decide) (fun cd7 => ?_) (fun cd7 => ?_)
    · have hw := hw.1 cd7
      refine lv_iconst (v := 1) hx hb dX4_takesDigit_24 (by decide) ?_
      refine lv_goto (tgt := 29) hx hb dX4_takesDigit_25 (by decide) ?_
      exact fin_z (a1) hx hb hr (nz (Or.inr rfl)) hlocks hK hS hP hD ⟨(Or.inr rfl), hw⟩ dX4_takesDigit_29
    · have hw := hw.2 cd7
      refine lv_aload_n hx hb dX4_takesDigit_17 rfl (lv_at hl 0 rfl) ?_
      refine kcR_i (kr_V [] ⟨hx, hb, hml, hown, hts⟩ (cn_X4_kind l G qt qtc qtn tc tl tn tf a1 hw H.size) (cwV 0 hts gX4_takesDigit_X4_kind rfl rfl rfl (by decide +kernel) ⟨Nat.le_of_ble_eq_true rfl, Nat.le_of_ble_eq_true rfl⟩) hK hG hP hD hS hA [0, 1, 2] rfl rfl 4 0 rfl rfl rfl hl.1 rfl (Nat.le_of_ble_eq_true rfl) dX4_takesDigit_18 ⟨Nat.le_of_ble_eq_true rfl, Nat.le_of_ble_eq_true rfl⟩) hP hD hS hA [0, 1, 2] rfl (fun r8 u H locs hw hP hS => ?_)
      try dsimp only at hw
      refine lv_if_ne (tgt := 28) hx hb dX4_takesDigit_21 (by decide) (fun cd9 => ?_) (fun cd9 => ?_)
      · have hw := hw.1 cd9
        refine lv_iconst (v := 0) hx hb dX4_takesDigit_28 (by decide) ?_
        exact fin_z (a1) hx hb hr (nz (Or.inl rfl)) hlocks hK hS hP hD ⟨(Or.inl rfl), hw⟩ dX4_takesDigit_29
      · have hw := hw.2 cd9
        refine lv_iconst (v := 1) hx hb dX4_takesDigit_24 (by decide) ?_
        refine lv_goto (tgt := 29) hx hb dX4_takesDigit_25 (by decide) ?_
        exact fin_z (a1) hx hb hr (nz (Or.inr rfl)) hlocks hK hS hP hD ⟨(Or.inr rfl), hw⟩ dX4_takesDigit_29

abbrev w0_X4_takes (G : mG) (qt : Nat) (qtc : Nat) (qtn : Nat) (tc : Nat → Int32) (tl : Int32) (tn : Nat → Int32) (tf : Int32) (tv : Int32) : va_W := [(qt, .inr (4, [.ref qtc, .int tl, .ref qtn, .int tf, .int tv])), (qtc, .inl (gI G, (60, .inl tc))), (qtn, .inl (gI G, (60, .inl tn)))]
set_option maxRecDepth 100000 in
theorem k_X4_takes_inX4 : ∀ w ∈ u_ws RX4 TX4 5, w ∈ wsX4_takes := by decide +kernel
set_option maxRecDepth 100000 in
theorem k_X4_takes_f25 : Cond.fieldLink RX4 25 "RehearsalRoom$Text" "value" "I" ∈ wsX4_takes := by decide +kernel
set_option maxRecDepth 100000 in
theorem k_X4_takes_f35 : Cond.fieldLink RX4 35 "RehearsalRoom$Text" "SIGN_BEHIND" "[C" ∈ wsX4_takes := by decide +kernel
set_option maxHeartbeats 8000000 in
set_option maxRecDepth 100000 in
theorem cn_X4_takes (l : Launch) (G : mG) (qt : Nat) (qtc : Nat) (qtn : Nat) (tc : Nat → Int32) (tl : Int32) (tn : Nat → Int32) (tf : Int32) (tv : Int32) (a1 : Int32) {Q : Int32 → (Nat → Int32) → Int32 → Int32 → Prop} (hw : wn_X4_takes tn tf tv a1 Q) (sz : Nat) :
    Met l yX4_takes wsX4_takes ({ frames := 2, cells := 0, slots := 0, locals := 42 } : Room) (va_Pc [.ref qt, .int a1] (mPre G (w0_X4_takes G qt qtc qtn tc tl tn tf tv) sz)) (va_Qi (fun (r : Int32) (u : (Nat → Int32) × Int32 × Int32) => (r = 0 ∨ r = 1) ∧ Q r u.1 u.2.1 u.2.2) (mBk G (va_A (w0_X4_takes G qt qtc qtn tc tl tn tf tv) sz) (fun (u : (Nat → Int32) × Int32 × Int32) => (w0_X4_takes G qt qtc qtn tc tl u.1 u.2.1 u.2.2))) (va_A (w0_X4_takes G qt qtc qtn tc tl tn tf tv) sz)) 0 0 (va_A (w0_X4_takes G qt qtc qtn tc tl tn tf tv) sz) := by
  refine ms_i (cc := cX4_takes) (maxL := 2) (ret := some .boolean) (post := (fun (r : Int32) (u : (Nat → Int32) × Int32 × Int32) => (r = 0 ∨ r = 1) ∧ Q r u.1 u.2.1 u.2.2)) (w1 := (fun (u : (Nat → Int32) × Int32 × Int32) => (w0_X4_takes G qt qtc qtn tc tl u.1 u.2.1 u.2.2))) (by decide) rfl (Nat.le_of_ble_eq_true rfl) ?_ sz
  intro p e s m below meth c A ls H locs hx hb hr hml hown hts hlocks hK hG hP hD hS hA hl
  have hown : s.vm.findClass RX4 = some m.cls := hown
  have hl : lv_has ls 2 [(0, .ref qt), (1, .int a1)] := hl
  have J21 : ∀ (tn : Nat → Int32) (tf : Int32) (tv : Int32) (x1 : Int32) (H : Heap) (locs : List Loc) (ls : Array Slot), va_P (gD G) vwCl (w0_X4_takes G qt qtc qtn tc tl tn tf tv) H → va_D A (w0_X4_takes G qt qtc qtn tc tl tn tf tv) → va_S A s.heap H locs → lv_has ls 2 [(0, .ref qt), (1, .int x1)] → wj_n_X4_takes_21 Q tn tf tv x1 → W p l e ({ frames := 2, cells := 0, slots := 0, locals := 42 } : Room) s m ([.ref qt, .int a1] : List Value).toArray below meth c H locs 0 0 (MQ below (va_Qi (fun (r : Int32) (u : (Nat → Int32) × Int32 × Int32) => (r = 0 ∨ r = 1) ∧ Q r u.1 u.2.1 u.2.2) (mBk G A (fun (u : (Nat → Int32) × Int32 × Int32) => (w0_X4_takes G qt qtc qtn tc tl u.1 u.2.1 u.2.2))) A) ([.ref qt, .int a1] : List Value).toArray s 0 0 A) (F0 m 21 ls []) := by
    intro tn tf tv x1 H locs ls hP hD hS hl hw
    unfold wj_n_X4_takes_21 at hw
    refine lv_aload_n hx hb dX4_takes_21 rfl (lv_at hl 0 rfl) ?_
    refine va_get (D := gD G) (ci := 4) (v := .int tv) (C := RX4) (T := TX4) (N := 5) hx hb hts k_X4_takes_inX4 hown hK hP 0 rfl rfl 4 (by decide) (hts _ k_X4_takes_f25) (fun _ h9 => h9) rfl dX4_takes_22 ?_
    refine lv_iconst (v := -1) hx hb dX4_takes_25 (by decide) ?_
    refine lv_icmp_eq (tgt := 41) hx hb dX4_takes_26 (by decide) (fun cd2 => ?_) (fun cd2 => ?_)
    · have hw := hw.1 cd2
      refine lv_iconst (v := 0) hx hb dX4_takes_41 (by decide) ?_
      exact fin_z (tn, tf, tv) hx hb hr (nz (Or.inl rfl)) hlocks hK hS hP hD ⟨(Or.inl rfl), hw⟩ dX4_takes_42
    · have hw := hw.2 cd2
      refine lv_iload_n hx hb dX4_takes_29 rfl (lv_at hl 1 rfl) ?_
      refine va_gets (own := RX4) (ref := RX4) hx hb hG.2.2.1.1 hS hown (hts _ k_X4_takes_f35) (fun _ h9 => h9) dX4_takes_30 ?_
      refine lv_aload_n hx hb dX4_takes_33 rfl (lv_at hl 0 rfl) ?_
      refine kcR_i (kr_V [.ref (gS2 G), .int x1] ⟨hx, hb, hml, hown, hts⟩ (cn_X4_kind l G qt qtc qtn tc tl tn tf tv hw H.size) (cwV 0 hts gX4_takes_X4_kind rfl rfl rfl (by decide +kernel) ⟨Nat.le_of_ble_eq_true rfl, Nat.le_of_ble_eq_true rfl⟩) hK hG hP hD hS hA [0, 1, 2] rfl rfl 4 0 rfl rfl rfl hl.1 rfl (Nat.le_of_ble_eq_true rfl) dX4_takes_34 ⟨Nat.le_of_ble_eq_true rfl, Nat.le_of_ble_eq_true rfl⟩) hP hD hS hA [0, 1, 2] rfl (fun r3 u H locs hw hP hS => ?_)
      try dsimp only at hw
      obtain ⟨h4, hw⟩ := hw
      refine va_tc (v := .int (gSg r3.toNatClampNeg)) hx hb hG.2.2.1.2 hS h4 rfl dX4_takes_37 ?_
      refine lv_icmp_eq (tgt := 43) hx hb dX4_takes_38 (by decide) (fun cd5 => ?_) (fun cd5 => ?_)
      · have hw := hw.1 cd5
        refine lv_aload_n hx hb dX4_takes_43 rfl (lv_at hl 0 rfl) ?_
        refine kc_v (kr_V [] ⟨hx, hb, hml, hown, hts⟩ (cn_X4_finishNumber l G qt qtc qtn tc tl tn tf tv hw H.size) (cwV 0 hts gX4_takes_X4_finishNumber rfl rfl rfl (by decide +kernel) ⟨Nat.le_of_ble_eq_true rfl, Nat.le_of_ble_eq_true rfl⟩) hK hG hP hD hS hA [0, 1, 2] rfl rfl 4 0 rfl rfl rfl hl.1 rfl (Nat.le_of_ble_eq_true rfl) dX4_takes_44 ⟨Nat.le_of_ble_eq_true rfl, Nat.le_of_ble_eq_true rfl⟩) hP hD hS hA [0, 1, 2] [] rfl rfl rfl (by decide) (fun u H locs hw hP hD hS => ?_)
        obtain ⟨tn_6, tf_7, tv_8⟩ := u
        try dsimp only at hw
        have hP := hP.sub (ws' := (w0_X4_takes G qt qtc qtn tc tl tn_6 tf_7 tv_8)) [0, 1, 2] rfl
        have hD := hD.sub (ws' := (w0_X4_takes G qt qtc qtn tc tl tn_6 tf_7 tv_8)) [0, 1, 2] rfl rfl
        refine lv_iconst (v := 1) hx hb dX4_takes_47 (by decide) ?_
        exact fin_z (tn_6, tf_7, tv_8) hx hb hr (nz (Or.inr rfl)) hlocks hK hS hP hD ⟨(Or.inr rfl), hw⟩ dX4_takes_48
      · have hw := hw.2 cd5
        refine lv_iconst (v := 0) hx hb dX4_takes_41 (by decide) ?_
        exact fin_z (tn, tf, tv) hx hb hr (nz (Or.inl rfl)) hlocks hK hS hP hD ⟨(Or.inl rfl), hw⟩ dX4_takes_42
  unfold wn_X4_takes at hw
  refine lv_iload_n hx hb dX4_takes_0 rfl (lv_at hl 1 rfl) ?_
  refine lv_bipush (v := 48) hx hb dX4_takes_1 (by decide) ?_
  refine lv_icmp_lt (tgt := 21) hx hb dX4_takes_3 (by decide) (fun cd1 => ?_) (fun cd1 => ?_)
  · have hw := hw.1 cd1
    exact J21 tn tf tv a1 _ _ _ hP hD hS hl hw
  · have hw := hw.2 cd1
    refine lv_iload_n hx hb dX4_takes_6 rfl (lv_at hl 1 rfl) ?_
    refine lv_bipush (v := 57) hx hb dX4_takes_7 (by decide) ?_
    refine lv_icmp_gt (tgt := 21) hx hb dX4_takes_9 (by decide) (fun cd9 => ?_) (fun cd9 => ?_)
    · have hw := hw.1 cd9
      exact J21 tn tf tv a1 _ _ _ hP hD hS hl hw
    · have hw := hw.2 cd9
      refine lv_aload_n hx hb dX4_takes_12 rfl (lv_at hl 0 rfl) ?_
      refine lv_iload_n hx hb dX4_takes_13 rfl (lv_at hl 1 rfl) ?_
      refine lv_bipush (v := 48) hx hb dX4_takes_14 (by decide) ?_
      refine lv_isub hx hb dX4_takes_16 ?_
      refine kc_i (kr_V [] ⟨hx, hb, hml, hown, hts⟩ (cn_X4_takesDigit l G qt qtc qtn tc tl tn tf tv (a1 - (48 : Int32)) hw H.size) (cwV 1 hts gX4_takes_X4_takesDigit rfl rfl rfl (by decide +kernel) ⟨Nat.le_of_ble_eq_true rfl, Nat.le_of_ble_eq_true rfl⟩) hK hG hP hD hS hA [0, 1, 2] rfl rfl 4 0 rfl rfl rfl hl.1 rfl (Nat.le_of_ble_eq_true rfl) dX4_takes_17 ⟨Nat.le_of_ble_eq_true rfl, Nat.le_of_ble_eq_true rfl⟩) hP hD hS hA [0, 1, 2] [] rfl rfl rfl (by decide) (fun r10 u H locs hw hP hD hS => ?_)
      obtain ⟨tv_11, rfl⟩ : ∃ z, z = u := ⟨_, rfl⟩
      try dsimp only at hw
      have hP := hP.sub (ws' := (w0_X4_takes G qt qtc qtn tc tl tn tf tv_11)) [0, 1, 2] rfl
      have hD := hD.sub (ws' := (w0_X4_takes G qt qtc qtn tc tl tn tf tv_11)) [0, 1, 2] rfl rfl
      obtain ⟨hz_r10, hw⟩ := hw
      exact fin_z (tn, tf, tv_11) hx hb hr (nz hz_r10) hlocks hK hS hP hD ⟨hz_r10, hw⟩ dX4_takes_20

abbrev w0_X4_scan (G : mG) (qt : Nat) (qtc : Nat) (qtn : Nat) (tc : Nat → Int32) (tl : Int32) (tn : Nat → Int32) (tf : Int32) (tv : Int32) : va_W := [(qt, .inr (4, [.ref qtc, .int tl, .ref qtn, .int tf, .int tv])), (qtc, .inl (gI G, (60, .inl tc))), (qtn, .inl (gI G, (60, .inl tn)))]
set_option maxRecDepth 100000 in
theorem k_X4_scan_inX4 : ∀ w ∈ u_ws RX4 TX4 5, w ∈ wsX4_scan := by decide +kernel
set_option maxRecDepth 100000 in
theorem k_X4_scan_f22 : Cond.fieldLink RX4 22 "RehearsalRoom$Text" "finished" "I" ∈ wsX4_scan := by decide +kernel
set_option maxRecDepth 100000 in
theorem k_X4_scan_f25 : Cond.fieldLink RX4 25 "RehearsalRoom$Text" "value" "I" ∈ wsX4_scan := by decide +kernel
set_option maxRecDepth 100000 in
theorem k_X4_scan_f15 : Cond.fieldLink RX4 15 "RehearsalRoom$Text" "length" "I" ∈ wsX4_scan := by decide +kernel
set_option maxRecDepth 100000 in
theorem k_X4_scan_f9 : Cond.fieldLink RX4 9 "RehearsalRoom$Text" "codes" "[I" ∈ wsX4_scan := by decide +kernel
set_option maxHeartbeats 8000000 in
set_option maxRecDepth 100000 in
theorem cn_X4_scan (l : Launch) (G : mG) (qt : Nat) (qtc : Nat) (qtn : Nat) (tc : Nat → Int32) (tl : Int32) (tn : Nat → Int32) (tf : Int32) (tv : Int32) {Q : Int32 → (Nat → Int32) → Int32 → Int32 → Prop} (hw : wn_X4_scan tc tl tn tf tv Q) (sz : Nat) :
    Met l yX4_scan wsX4_scan ({ frames := 3, cells := 0, slots := 0, locals := 63 } : Room) (va_Pc [.ref qt] (mPre G (w0_X4_scan G qt qtc qtn tc tl tn tf tv) sz)) (va_Qi (fun (r : Int32) (u : (Nat → Int32) × Int32 × Int32) => Q r u.1 u.2.1 u.2.2) (mBk G (va_A (w0_X4_scan G qt qtc qtn tc tl tn tf tv) sz) (fun (u : (Nat → Int32) × Int32 × Int32) => (w0_X4_scan G qt qtc qtn tc tl u.1 u.2.1 u.2.2))) (va_A (w0_X4_scan G qt qtc qtn tc tl tn tf tv) sz)) 0 0 (va_A (w0_X4_scan G qt qtc qtn tc tl tn tf tv) sz) := by
  refine ms_i (cc := cX4_scan) (maxL := 2) (ret := some .int) (post := (fun (r : Int32) (u : (Nat → Int32) × Int32 × Int32) => Q r u.1 u.2.1 u.2.2)) (w1 := (fun (u : (Nat → Int32) × Int32 × Int32) => (w0_X4_scan G qt qtc qtn tc tl u.1 u.2.1 u.2.2))) (by decide) rfl (Nat.le_of_ble_eq_true rfl) ?_ sz
  intro p e s m below meth c A ls H locs hx hb hr hml hown hts hlocks hK hG hP hD hS hA hl
  have hown : s.vm.findClass RX4 = some m.cls := hown
  have hl : lv_has ls 2 [(0, .ref qt)] := hl
  have J12 : ∀ (n : Nat) (tn : Nat → Int32) (tf : Int32) (tv : Int32) (x1 : Int32) (H : Heap) (locs : List Loc) (ls : Array Slot), va_P (gD G) vwCl (w0_X4_scan G qt qtc qtn tc tl tn tf tv) H → va_D A (w0_X4_scan G qt qtc qtn tc tl tn tf tv) → va_S A s.heap H locs → lv_has ls 2 [(0, .ref qt), (1, .int x1)] → wl_n_X4_scan_12 tc tl Q n tn tf tv x1 → W p l e ({ frames := 3, cells := 0, slots := 0, locals := 63 } : Room) s m ([.ref qt] : List Value).toArray below meth c H locs 0 0 (MQ below (va_Qi (fun (r : Int32) (u : (Nat → Int32) × Int32 × Int32) => Q r u.1 u.2.1 u.2.2) (mBk G A (fun (u : (Nat → Int32) × Int32 × Int32) => (w0_X4_scan G qt qtc qtn tc tl u.1 u.2.1 u.2.2))) A) ([.ref qt] : List Value).toArray s 0 0 A) (F0 m 12 ls []) := by
    intro n
    induction n with
    | zero => intro tn tf tv x1 H locs ls hP hD hS hl hw; exact False.elim hw
    | succ n ih =>
      intro tn tf tv x1 H locs ls hP hD hS hl hw
      rw [wl_n_X4_scan_12] at hw
      refine lv_iload_n hx hb dX4_scan_12 rfl (lv_at hl 1 rfl) ?_
      refine lv_aload_n hx hb dX4_scan_13 rfl (lv_at hl 0 rfl) ?_
      refine va_get (D := gD G) (ci := 4) (v := .int tl) (C := RX4) (T := TX4) (N := 5) hx hb hts k_X4_scan_inX4 hown hK hP 0 rfl rfl 1 (by decide) (hts _ k_X4_scan_f15) (fun _ h9 => h9) rfl dX4_scan_14 ?_
      refine lv_icmp_ge (tgt := 41) hx hb dX4_scan_17 (by decide) (fun cd1 => ?_) (fun cd1 => ?_)
      · have hw := hw.1 cd1
        refine lv_aload_n hx hb dX4_scan_41 rfl (lv_at hl 0 rfl) ?_
        refine va_get (D := gD G) (ci := 4) (v := .int tl) (C := RX4) (T := TX4) (N := 5) hx hb hts k_X4_scan_inX4 hown hK hP 0 rfl rfl 1 (by decide) (hts _ k_X4_scan_f15) (fun _ h9 => h9) rfl dX4_scan_42 ?_
        exact fin_i (tn, tf, tv) hx hb hr hlocks hK hS hP hD hw dX4_scan_45
      · have hw := hw.2 cd1
        refine lv_aload_n hx hb dX4_scan_20 rfl (lv_at hl 0 rfl) ?_
        refine lv_aload_n hx hb dX4_scan_21 rfl (lv_at hl 0 rfl) ?_
        refine va_get (D := gD G) (ci := 4) (v := .ref qtc) (C := RX4) (T := TX4) (N := 5) hx hb hts k_X4_scan_inX4 hown hK hP 0 rfl rfl 0 (by decide) (hts _ k_X4_scan_f9) (fun _ h9 => h9) rfl dX4_scan_22 ?_
        refine lv_iload_n hx hb dX4_scan_25 rfl (lv_at hl 1 rfl) ?_
        obtain ⟨h2, hw⟩ := hw
        refine va_iald hx hb hK hP 1 0 rfl rfl h2 dX4_scan_26 ?_
        refine kc_i (kr_V [] ⟨hx, hb, hml, hown, hts⟩ (cn_X4_takes l G qt qtc qtn tc tl tn tf tv (tc x1.toNatClampNeg) hw H.size) (cwV 1 hts gX4_scan_X4_takes rfl rfl rfl (by decide +kernel) ⟨Nat.le_of_ble_eq_true rfl, Nat.le_of_ble_eq_true rfl⟩) hK hG hP hD hS hA [0, 1, 2] rfl rfl 4 0 rfl rfl rfl hl.1 rfl (Nat.le_of_ble_eq_true rfl) dX4_scan_27 ⟨Nat.le_of_ble_eq_true rfl, Nat.le_of_ble_eq_true rfl⟩) hP hD hS hA [0, 1, 2] [] rfl rfl rfl (by decide) (fun r3 u H locs hw hP hD hS => ?_)
        obtain ⟨tn_4, tf_5, tv_6⟩ := u
        try dsimp only at hw
        have hP := hP.sub (ws' := (w0_X4_scan G qt qtc qtn tc tl tn_4 tf_5 tv_6)) [0, 1, 2] rfl
        have hD := hD.sub (ws' := (w0_X4_scan G qt qtc qtn tc tl tn_4 tf_5 tv_6)) [0, 1, 2] rfl rfl
        obtain ⟨hz_r3, hw⟩ := hw
        refine lv_if_ne (tgt := 35) hx hb dX4_scan_30 (by decide) (fun cd7 => ?_) (fun cd7 => ?_)
        · have hw := hw.1 cd7
          refine lv_iinc (v := (x1 + 1)) (lv' := [(1, .int (x1 + 1)), (0, .ref qt)]) hx hb dX4_scan_35 hl (k := 1) rfl rfl (by decide) rfl (fun ls hl => ?_)
          refine lv_goto (tgt := 12) hx hb dX4_scan_38 (by decide) ?_
          exact ih tn_4 tf_5 tv_6 (x1 + 1) _ _ _ hP hD hS (lv_sub hl [1, 0] rfl) hw
        · have hw := hw.2 cd7
          refine lv_iload_n hx hb dX4_scan_33 rfl (lv_at hl 1 rfl) ?_
          exact fin_i (tn_4, tf_5, tv_6) hx hb hr hlocks hK hS hP hD hw dX4_scan_34
  unfold wn_X4_scan at hw
  refine lv_aload_n hx hb dX4_scan_0 rfl (lv_at hl 0 rfl) ?_
  refine lv_iconst (v := 0) hx hb dX4_scan_1 (by decide) ?_
  refine va_put (D := gD G) (ci := 4) (v := .int (0 : Int32)) (ty := .int) (C := RX4) (T := TX4) (N := 5) hx hb hts k_X4_scan_inX4 tyX4 tyX4_ok nmX4 hown hK hP hD hS 0 rfl rfl 3 (by decide) (hts _ k_X4_scan_f22) (fun _ h9 => h9) rfl (by decide +kernel) rfl rfl (Nat.le_of_ble_eq_true rfl) dX4_scan_2 (fun H locs hP hD hS => ?_)
  have hP : va_P (gD G) vwCl (w0_X4_scan G qt qtc qtn tc tl tn (0 : Int32) tv) H := hP
  have hD : va_D A (w0_X4_scan G qt qtc qtn tc tl tn (0 : Int32) tv) := hD
  refine lv_aload_n hx hb dX4_scan_5 rfl (lv_at hl 0 rfl) ?_
  refine lv_iconst (v := -1) hx hb dX4_scan_6 (by decide) ?_
  refine va_put (D := gD G) (ci := 4) (v := .int (-1 : Int32)) (ty := .int) (C := RX4) (T := TX4) (N := 5) hx hb hts k_X4_scan_inX4 tyX4 tyX4_ok nmX4 hown hK hP hD hS 0 rfl rfl 4 (by decide) (hts _ k_X4_scan_f25) (fun _ h9 => h9) rfl (by decide +kernel) rfl rfl (Nat.le_of_ble_eq_true rfl) dX4_scan_7 (fun H locs hP hD hS => ?_)
  have hP : va_P (gD G) vwCl (w0_X4_scan G qt qtc qtn tc tl tn (0 : Int32) (-1 : Int32)) H := hP
  have hD : va_D A (w0_X4_scan G qt qtc qtn tc tl tn (0 : Int32) (-1 : Int32)) := hD
  refine lv_iconst (v := 0) hx hb dX4_scan_10 (by decide) ?_
  refine lv_istore_n (lv' := [(1, .int (0 : Int32)), (0, .ref qt)]) hx hb dX4_scan_11 rfl hl (by decide) rfl (fun ls hl => ?_)
  obtain ⟨n12, hw⟩ := hw
  exact J12 n12 tn (0 : Int32) (-1 : Int32) (0 : Int32) _ _ _ hP hD hS (lv_sub hl [1, 0] rfl) hw

abbrev w0_X4_tellsRehearsals (G : mG) (qt : Nat) (qtc : Nat) (qtn : Nat) (tc : Nat → Int32) (tl : Int32) (tn : Nat → Int32) (tf : Int32) (tv : Int32) : va_W := [(qt, .inr (4, [.ref qtc, .int tl, .ref qtn, .int tf, .int tv])), (qtc, .inl (gI G, (60, .inl tc))), (qtn, .inl (gI G, (60, .inl tn)))]
set_option maxRecDepth 100000 in
theorem k_X4_tellsRehearsals_inX4 : ∀ w ∈ u_ws RX4 TX4 5, w ∈ wsX4_tellsRehearsals := by decide +kernel
set_option maxRecDepth 100000 in
theorem k_X4_tellsRehearsals_f15 : Cond.fieldLink RX4 15 "RehearsalRoom$Text" "length" "I" ∈ wsX4_tellsRehearsals := by decide +kernel
set_option maxRecDepth 100000 in
theorem k_X4_tellsRehearsals_f25 : Cond.fieldLink RX4 25 "RehearsalRoom$Text" "value" "I" ∈ wsX4_tellsRehearsals := by decide +kernel
set_option maxHeartbeats 8000000 in
set_option maxRecDepth 100000 in
theorem cn_X4_tellsRehearsals (l : Launch) (G : mG) (qt : Nat) (qtc : Nat) (qtn : Nat) (tc : Nat → Int32) (tl : Int32) (tn : Nat → Int32) (tf : Int32) (tv : Int32) {Q : Int32 → (Nat → Int32) → Int32 → Int32 → Prop} (hw : wn_X4_tellsRehearsals tc tl tn tf tv Q) (sz : Nat) :
    Met l yX4_tellsRehearsals wsX4_tellsRehearsals ({ frames := 4, cells := 0, slots := 0, locals := 84 } : Room) (va_Pc [.ref qt] (mPre G (w0_X4_tellsRehearsals G qt qtc qtn tc tl tn tf tv) sz)) (va_Qi (fun (r : Int32) (u : (Nat → Int32) × Int32 × Int32) => (r = 0 ∨ r = 1) ∧ Q r u.1 u.2.1 u.2.2) (mBk G (va_A (w0_X4_tellsRehearsals G qt qtc qtn tc tl tn tf tv) sz) (fun (u : (Nat → Int32) × Int32 × Int32) => (w0_X4_tellsRehearsals G qt qtc qtn tc tl u.1 u.2.1 u.2.2))) (va_A (w0_X4_tellsRehearsals G qt qtc qtn tc tl tn tf tv) sz)) 0 0 (va_A (w0_X4_tellsRehearsals G qt qtc qtn tc tl tn tf tv) sz) := by
  refine ms_i (cc := cX4_tellsRehearsals) (maxL := 1) (ret := some .boolean) (post := (fun (r : Int32) (u : (Nat → Int32) × Int32 × Int32) => (r = 0 ∨ r = 1) ∧ Q r u.1 u.2.1 u.2.2)) (w1 := (fun (u : (Nat → Int32) × Int32 × Int32) => (w0_X4_tellsRehearsals G qt qtc qtn tc tl u.1 u.2.1 u.2.2))) (by decide) rfl (Nat.le_of_ble_eq_true rfl) ?_ sz
  intro p e s m below meth c A ls H locs hx hb hr hml hown hts hlocks hK hG hP hD hS hA hl
  have hown : s.vm.findClass RX4 = some m.cls := hown
  have hl : lv_has ls 1 [(0, .ref qt)] := hl
  unfold wn_X4_tellsRehearsals at hw
  refine lv_aload_n hx hb dX4_tellsRehearsals_0 rfl (lv_at hl 0 rfl) ?_
  refine kc_i (kr_V [] ⟨hx, hb, hml, hown, hts⟩ (cn_X4_scan l G qt qtc qtn tc tl tn tf tv hw H.size) (cwV 0 hts gX4_tellsRehearsals_X4_scan rfl rfl rfl (by decide +kernel) ⟨Nat.le_of_ble_eq_true rfl, Nat.le_of_ble_eq_true rfl⟩) hK hG hP hD hS hA [0, 1, 2] rfl rfl 4 0 rfl rfl rfl hl.1 rfl (Nat.le_of_ble_eq_true rfl) dX4_tellsRehearsals_1 ⟨Nat.le_of_ble_eq_true rfl, Nat.le_of_ble_eq_true rfl⟩) hP hD hS hA [0, 1, 2] [] rfl rfl rfl (by decide) (fun r1 u H locs hw hP hD hS => ?_)
  obtain ⟨tn_2, tf_3, tv_4⟩ := u
  try dsimp only at hw
  have hP := hP.sub (ws' := (w0_X4_tellsRehearsals G qt qtc qtn tc tl tn_2 tf_3 tv_4)) [0, 1, 2] rfl
  have hD := hD.sub (ws' := (w0_X4_tellsRehearsals G qt qtc qtn tc tl tn_2 tf_3 tv_4)) [0, 1, 2] rfl rfl
  refine lv_aload_n hx hb dX4_tellsRehearsals_4 rfl (lv_at hl 0 rfl) ?_
  refine va_get (D := gD G) (ci := 4) (v := .int tl) (C := RX4) (T := TX4) (N := 5) hx hb hts k_X4_tellsRehearsals_inX4 hown hK hP 0 rfl rfl 1 (by decide) (hts _ k_X4_tellsRehearsals_f15) (fun _ h9 => h9) rfl dX4_tellsRehearsals_5 ?_
  refine lv_icmp_lt (tgt := 27) hx hb dX4_tellsRehearsals_8 (by decide) (fun cd5 => ?_) (fun cd5 => ?_)
  · have hw := hw.1 cd5
    refine lv_iconst (v := 0) hx hb dX4_tellsRehearsals_27 (by decide) ?_
    exact fin_z (tn_2, tf_3, tv_4) hx hb hr (nz (Or.inl rfl)) hlocks hK hS hP hD ⟨(Or.inl rfl), hw⟩ dX4_tellsRehearsals_28
  · have hw := hw.2 cd5
    refine lv_aload_n hx hb dX4_tellsRehearsals_11 rfl (lv_at hl 0 rfl) ?_
    refine va_get (D := gD G) (ci := 4) (v := .int tv_4) (C := RX4) (T := TX4) (N := 5) hx hb hts k_X4_tellsRehearsals_inX4 hown hK hP 0 rfl rfl 4 (by decide) (hts _ k_X4_tellsRehearsals_f25) (fun _ h9 => h9) rfl dX4_tellsRehearsals_12 ?_
    refine lv_iconst (v := -1) hx hb dX4_tellsRehearsals_15 (by decide) ?_
    refine lv_icmp_eq (tgt := 27) hx hb dX4_tellsRehearsals_16 (by decide) (fun cd6 => ?_) (fun cd6 => ?_)
    · have hw := hw.1 cd6
      refine lv_iconst (v := 0) hx hb dX4_tellsRehearsals_27 (by decide) ?_
      exact fin_z (tn_2, tf_3, tv_4) hx hb hr (nz (Or.inl rfl)) hlocks hK hS hP hD ⟨(Or.inl rfl), hw⟩ dX4_tellsRehearsals_28
    · have hw := hw.2 cd6
      refine lv_aload_n hx hb dX4_tellsRehearsals_19 rfl (lv_at hl 0 rfl) ?_
      refine kcR_i (kr_V [] ⟨hx, hb, hml, hown, hts⟩ (cn_X4_kind l G qt qtc qtn tc tl tn_2 tf_3 tv_4 hw H.size) (cwV 0 hts gX4_tellsRehearsals_X4_kind rfl rfl rfl (by decide +kernel) ⟨Nat.le_of_ble_eq_true rfl, Nat.le_of_ble_eq_true rfl⟩) hK hG hP hD hS hA [0, 1, 2] rfl rfl 4 0 rfl rfl rfl hl.1 rfl (Nat.le_of_ble_eq_true rfl) dX4_tellsRehearsals_20 ⟨Nat.le_of_ble_eq_true rfl, Nat.le_of_ble_eq_true rfl⟩) hP hD hS hA [0, 1, 2] rfl (fun r7 u H locs hw hP hS => ?_)
      try dsimp only at hw
      refine lv_iconst (v := 2) hx hb dX4_tellsRehearsals_23 (by decide) ?_
      refine lv_icmp_eq (tgt := 29) hx hb dX4_tellsRehearsals_24 (by decide) (fun cd8 => ?_) (fun cd8 => ?_)
      · have hw := hw.1 cd8
        refine lv_aload_n hx hb dX4_tellsRehearsals_29 rfl (lv_at hl 0 rfl) ?_
        refine kc_v (kr_V [] ⟨hx, hb, hml, hown, hts⟩ (cn_X4_finishNumber l G qt qtc qtn tc tl tn_2 tf_3 tv_4 hw H.size) (cwV 0 hts gX4_tellsRehearsals_X4_finishNumber rfl rfl rfl (by decide +kernel) ⟨Nat.le_of_ble_eq_true rfl, Nat.le_of_ble_eq_true rfl⟩) hK hG hP hD hS hA [0, 1, 2] rfl rfl 4 0 rfl rfl rfl hl.1 rfl (Nat.le_of_ble_eq_true rfl) dX4_tellsRehearsals_30 ⟨Nat.le_of_ble_eq_true rfl, Nat.le_of_ble_eq_true rfl⟩) hP hD hS hA [0, 1, 2] [] rfl rfl rfl (by decide) (fun u H locs hw hP hD hS => ?_)
        obtain ⟨tn_9, tf_10, tv_11⟩ := u
        try dsimp only at hw
        have hP := hP.sub (ws' := (w0_X4_tellsRehearsals G qt qtc qtn tc tl tn_9 tf_10 tv_11)) [0, 1, 2] rfl
        have hD := hD.sub (ws' := (w0_X4_tellsRehearsals G qt qtc qtn tc tl tn_9 tf_10 tv_11)) [0, 1, 2] rfl rfl
        refine lv_iconst (v := 1) hx hb dX4_tellsRehearsals_33 (by decide) ?_
        exact fin_z (tn_9, tf_10, tv_11) hx hb hr (nz (Or.inr rfl)) hlocks hK hS hP hD ⟨(Or.inr rfl), hw⟩ dX4_tellsRehearsals_34
      · have hw := hw.2 cd8
        refine lv_iconst (v := 0) hx hb dX4_tellsRehearsals_27 (by decide) ?_
        exact fin_z (tn_2, tf_3, tv_4) hx hb hr (nz (Or.inl rfl)) hlocks hK hS hP hD ⟨(Or.inl rfl), hw⟩ dX4_tellsRehearsals_28

abbrev w0_X4_parts (G : mG) (qt : Nat) (qtc : Nat) (qtn : Nat) (tc : Nat → Int32) (tl : Int32) (tn : Nat → Int32) (tf : Int32) (tv : Int32) : va_W := [(qt, .inr (4, [.ref qtc, .int tl, .ref qtn, .int tf, .int tv])), (qtc, .inl (gI G, (60, .inl tc))), (qtn, .inl (gI G, (60, .inl tn)))]
set_option maxRecDepth 100000 in
theorem k_X4_parts_inX4 : ∀ w ∈ u_ws RX4 TX4 5, w ∈ wsX4_parts := by decide +kernel
set_option maxRecDepth 100000 in
theorem k_X4_parts_f22 : Cond.fieldLink RX4 22 "RehearsalRoom$Text" "finished" "I" ∈ wsX4_parts := by decide +kernel
set_option maxHeartbeats 8000000 in
set_option maxRecDepth 100000 in
theorem cn_X4_parts (l : Launch) (G : mG) (qt : Nat) (qtc : Nat) (qtn : Nat) (tc : Nat → Int32) (tl : Int32) (tn : Nat → Int32) (tf : Int32) (tv : Int32) {Q : Int32 → Prop} (hw : wn_X4_parts tf Q) (sz : Nat) :
    Met l yX4_parts wsX4_parts ({ frames := 0, cells := 0, slots := 0, locals := 0 } : Room) (va_Pc [.ref qt] (mPre G (w0_X4_parts G qt qtc qtn tc tl tn tf tv) sz)) (va_Qi (fun (r : Int32) (u : Unit) => Q r) (mBk G (va_A (w0_X4_parts G qt qtc qtn tc tl tn tf tv) sz) (fun (u : Unit) => (w0_X4_parts G qt qtc qtn tc tl tn tf tv))) (va_A (w0_X4_parts G qt qtc qtn tc tl tn tf tv) sz)) 0 0 (va_A (w0_X4_parts G qt qtc qtn tc tl tn tf tv) sz) := by
  refine ms_i (cc := cX4_parts) (maxL := 1) (ret := some .int) (post := (fun (r : Int32) (u : Unit) => Q r)) (w1 := (fun (u : Unit) => (w0_X4_parts G qt qtc qtn tc tl tn tf tv))) (by decide) rfl (Nat.le_of_ble_eq_true rfl) ?_ sz
  intro p e s m below meth c A ls H locs hx hb hr hml hown hts hlocks hK hG hP hD hS hA hl
  have hown : s.vm.findClass RX4 = some m.cls := hown
  have hl : lv_has ls 1 [(0, .ref qt)] := hl
  unfold wn_X4_parts at hw
  refine lv_aload_n hx hb dX4_parts_0 rfl (lv_at hl 0 rfl) ?_
  refine va_get (D := gD G) (ci := 4) (v := .int tf) (C := RX4) (T := TX4) (N := 5) hx hb hts k_X4_parts_inX4 hown hK hP 0 rfl rfl 3 (by decide) (hts _ k_X4_parts_f22) (fun _ h9 => h9) rfl dX4_parts_1 ?_
  refine lv_iconst (v := 3) hx hb dX4_parts_4 (by decide) ?_
  refine lv_idiv hx hb dX4_parts_5 (by decide) ?_
  exact fin_i () hx hb hr hlocks hK hS hP hD hw dX4_parts_6

abbrev w0_X4_beginIn (G : mG) (qt : Nat) (qtc : Nat) (qtn : Nat) (tc : Nat → Int32) (tl : Int32) (tn : Nat → Int32) (tf : Int32) (tv : Int32) : va_W := [(qt, .inr (4, [.ref qtc, .int tl, .ref qtn, .int tf, .int tv])), (qtc, .inl (gI G, (60, .inl tc))), (qtn, .inl (gI G, (60, .inl tn)))]
set_option maxRecDepth 100000 in
theorem k_X4_beginIn_inX4 : ∀ w ∈ u_ws RX4 TX4 5, w ∈ wsX4_beginIn := by decide +kernel
set_option maxRecDepth 100000 in
theorem k_X4_beginIn_f19 : Cond.fieldLink RX4 19 "RehearsalRoom$Text" "numbers" "[I" ∈ wsX4_beginIn := by decide +kernel
set_option maxHeartbeats 8000000 in
set_option maxRecDepth 100000 in
theorem cn_X4_beginIn (l : Launch) (G : mG) (qt : Nat) (qtc : Nat) (qtn : Nat) (tc : Nat → Int32) (tl : Int32) (tn : Nat → Int32) (tf : Int32) (tv : Int32) (a1 : Int32) {Q : Int32 → Prop} (hw : wn_X4_beginIn tn a1 Q) (sz : Nat) :
    Met l yX4_beginIn wsX4_beginIn ({ frames := 0, cells := 0, slots := 0, locals := 0 } : Room) (va_Pc [.ref qt, .int a1] (mPre G (w0_X4_beginIn G qt qtc qtn tc tl tn tf tv) sz)) (va_Qi (fun (r : Int32) (u : Unit) => Q r) (mBk G (va_A (w0_X4_beginIn G qt qtc qtn tc tl tn tf tv) sz) (fun (u : Unit) => (w0_X4_beginIn G qt qtc qtn tc tl tn tf tv))) (va_A (w0_X4_beginIn G qt qtc qtn tc tl tn tf tv) sz)) 0 0 (va_A (w0_X4_beginIn G qt qtc qtn tc tl tn tf tv) sz) := by
  refine ms_i (cc := cX4_beginIn) (maxL := 2) (ret := some .int) (post := (fun (r : Int32) (u : Unit) => Q r)) (w1 := (fun (u : Unit) => (w0_X4_beginIn G qt qtc qtn tc tl tn tf tv))) (by decide) rfl (Nat.le_of_ble_eq_true rfl) ?_ sz
  intro p e s m below meth c A ls H locs hx hb hr hml hown hts hlocks hK hG hP hD hS hA hl
  have hown : s.vm.findClass RX4 = some m.cls := hown
  have hl : lv_has ls 2 [(0, .ref qt), (1, .int a1)] := hl
  unfold wn_X4_beginIn at hw
  refine lv_aload_n hx hb dX4_beginIn_0 rfl (lv_at hl 0 rfl) ?_
  refine va_get (D := gD G) (ci := 4) (v := .ref qtn) (C := RX4) (T := TX4) (N := 5) hx hb hts k_X4_beginIn_inX4 hown hK hP 0 rfl rfl 2 (by decide) (hts _ k_X4_beginIn_f19) (fun _ h9 => h9) rfl dX4_beginIn_1 ?_
  refine lv_iconst (v := 3) hx hb dX4_beginIn_4 (by decide) ?_
  refine lv_iload_n hx hb dX4_beginIn_5 rfl (lv_at hl 1 rfl) ?_
  refine lv_imul hx hb dX4_beginIn_6 ?_
  refine lv_iconst (v := 0) hx hb dX4_beginIn_7 (by decide) ?_
  refine lv_iadd hx hb dX4_beginIn_8 ?_
  obtain ⟨h1, hw⟩ := hw
  refine va_iald hx hb hK hP 2 0 rfl rfl h1 dX4_beginIn_9 ?_
  exact fin_i () hx hb hr hlocks hK hS hP hD hw dX4_beginIn_10

abbrev w0_X4_endIn (G : mG) (qt : Nat) (qtc : Nat) (qtn : Nat) (tc : Nat → Int32) (tl : Int32) (tn : Nat → Int32) (tf : Int32) (tv : Int32) : va_W := [(qt, .inr (4, [.ref qtc, .int tl, .ref qtn, .int tf, .int tv])), (qtc, .inl (gI G, (60, .inl tc))), (qtn, .inl (gI G, (60, .inl tn)))]
set_option maxRecDepth 100000 in
theorem k_X4_endIn_inX4 : ∀ w ∈ u_ws RX4 TX4 5, w ∈ wsX4_endIn := by decide +kernel
set_option maxRecDepth 100000 in
theorem k_X4_endIn_f19 : Cond.fieldLink RX4 19 "RehearsalRoom$Text" "numbers" "[I" ∈ wsX4_endIn := by decide +kernel
set_option maxHeartbeats 8000000 in
set_option maxRecDepth 100000 in
theorem cn_X4_endIn (l : Launch) (G : mG) (qt : Nat) (qtc : Nat) (qtn : Nat) (tc : Nat → Int32) (tl : Int32) (tn : Nat → Int32) (tf : Int32) (tv : Int32) (a1 : Int32) {Q : Int32 → Prop} (hw : wn_X4_endIn tn a1 Q) (sz : Nat) :
    Met l yX4_endIn wsX4_endIn ({ frames := 0, cells := 0, slots := 0, locals := 0 } : Room) (va_Pc [.ref qt, .int a1] (mPre G (w0_X4_endIn G qt qtc qtn tc tl tn tf tv) sz)) (va_Qi (fun (r : Int32) (u : Unit) => Q r) (mBk G (va_A (w0_X4_endIn G qt qtc qtn tc tl tn tf tv) sz) (fun (u : Unit) => (w0_X4_endIn G qt qtc qtn tc tl tn tf tv))) (va_A (w0_X4_endIn G qt qtc qtn tc tl tn tf tv) sz)) 0 0 (va_A (w0_X4_endIn G qt qtc qtn tc tl tn tf tv) sz) := by
  refine ms_i (cc := cX4_endIn) (maxL := 2) (ret := some .int) (post := (fun (r : Int32) (u : Unit) => Q r)) (w1 := (fun (u : Unit) => (w0_X4_endIn G qt qtc qtn tc tl tn tf tv))) (by decide) rfl (Nat.le_of_ble_eq_true rfl) ?_ sz
  intro p e s m below meth c A ls H locs hx hb hr hml hown hts hlocks hK hG hP hD hS hA hl
  have hown : s.vm.findClass RX4 = some m.cls := hown
  have hl : lv_has ls 2 [(0, .ref qt), (1, .int a1)] := hl
  unfold wn_X4_endIn at hw
  refine lv_aload_n hx hb dX4_endIn_0 rfl (lv_at hl 0 rfl) ?_
  refine va_get (D := gD G) (ci := 4) (v := .ref qtn) (C := RX4) (T := TX4) (N := 5) hx hb hts k_X4_endIn_inX4 hown hK hP 0 rfl rfl 2 (by decide) (hts _ k_X4_endIn_f19) (fun _ h9 => h9) rfl dX4_endIn_1 ?_
  refine lv_iconst (v := 3) hx hb dX4_endIn_4 (by decide) ?_
  refine lv_iload_n hx hb dX4_endIn_5 rfl (lv_at hl 1 rfl) ?_
  refine lv_imul hx hb dX4_endIn_6 ?_
  refine lv_iconst (v := 1) hx hb dX4_endIn_7 (by decide) ?_
  refine lv_iadd hx hb dX4_endIn_8 ?_
  obtain ⟨h1, hw⟩ := hw
  refine va_iald hx hb hK hP 2 0 rfl rfl h1 dX4_endIn_9 ?_
  exact fin_i () hx hb hr hlocks hK hS hP hD hw dX4_endIn_10

abbrev w0_X4_fameIn (G : mG) (qt : Nat) (qtc : Nat) (qtn : Nat) (tc : Nat → Int32) (tl : Int32) (tn : Nat → Int32) (tf : Int32) (tv : Int32) : va_W := [(qt, .inr (4, [.ref qtc, .int tl, .ref qtn, .int tf, .int tv])), (qtc, .inl (gI G, (60, .inl tc))), (qtn, .inl (gI G, (60, .inl tn)))]
set_option maxRecDepth 100000 in
theorem k_X4_fameIn_inX4 : ∀ w ∈ u_ws RX4 TX4 5, w ∈ wsX4_fameIn := by decide +kernel
set_option maxRecDepth 100000 in
theorem k_X4_fameIn_f19 : Cond.fieldLink RX4 19 "RehearsalRoom$Text" "numbers" "[I" ∈ wsX4_fameIn := by decide +kernel
set_option maxHeartbeats 8000000 in
set_option maxRecDepth 100000 in
theorem cn_X4_fameIn (l : Launch) (G : mG) (qt : Nat) (qtc : Nat) (qtn : Nat) (tc : Nat → Int32) (tl : Int32) (tn : Nat → Int32) (tf : Int32) (tv : Int32) (a1 : Int32) {Q : Int32 → Prop} (hw : wn_X4_fameIn tn a1 Q) (sz : Nat) :
    Met l yX4_fameIn wsX4_fameIn ({ frames := 0, cells := 0, slots := 0, locals := 0 } : Room) (va_Pc [.ref qt, .int a1] (mPre G (w0_X4_fameIn G qt qtc qtn tc tl tn tf tv) sz)) (va_Qi (fun (r : Int32) (u : Unit) => Q r) (mBk G (va_A (w0_X4_fameIn G qt qtc qtn tc tl tn tf tv) sz) (fun (u : Unit) => (w0_X4_fameIn G qt qtc qtn tc tl tn tf tv))) (va_A (w0_X4_fameIn G qt qtc qtn tc tl tn tf tv) sz)) 0 0 (va_A (w0_X4_fameIn G qt qtc qtn tc tl tn tf tv) sz) := by
  refine ms_i (cc := cX4_fameIn) (maxL := 2) (ret := some .int) (post := (fun (r : Int32) (u : Unit) => Q r)) (w1 := (fun (u : Unit) => (w0_X4_fameIn G qt qtc qtn tc tl tn tf tv))) (by decide) rfl (Nat.le_of_ble_eq_true rfl) ?_ sz
  intro p e s m below meth c A ls H locs hx hb hr hml hown hts hlocks hK hG hP hD hS hA hl
  have hown : s.vm.findClass RX4 = some m.cls := hown
  have hl : lv_has ls 2 [(0, .ref qt), (1, .int a1)] := hl
  unfold wn_X4_fameIn at hw
  refine lv_aload_n hx hb dX4_fameIn_0 rfl (lv_at hl 0 rfl) ?_
  refine va_get (D := gD G) (ci := 4) (v := .ref qtn) (C := RX4) (T := TX4) (N := 5) hx hb hts k_X4_fameIn_inX4 hown hK hP 0 rfl rfl 2 (by decide) (hts _ k_X4_fameIn_f19) (fun _ h9 => h9) rfl dX4_fameIn_1 ?_
  refine lv_iconst (v := 3) hx hb dX4_fameIn_4 (by decide) ?_
  refine lv_iload_n hx hb dX4_fameIn_5 rfl (lv_at hl 1 rfl) ?_
  refine lv_imul hx hb dX4_fameIn_6 ?_
  refine lv_iconst (v := 2) hx hb dX4_fameIn_7 (by decide) ?_
  refine lv_iadd hx hb dX4_fameIn_8 ?_
  obtain ⟨h1, hw⟩ := hw
  refine va_iald hx hb hK hP 2 0 rfl rfl h1 dX4_fameIn_9 ?_
  exact fin_i () hx hb hr hlocks hK hS hP hD hw dX4_fameIn_10

abbrev w0_X4_endsFit (G : mG) (qt : Nat) (qtc : Nat) (qtn : Nat) (tc : Nat → Int32) (tl : Int32) (tn : Nat → Int32) (tf : Int32) (tv : Int32) : va_W := [(qt, .inr (4, [.ref qtc, .int tl, .ref qtn, .int tf, .int tv])), (qtc, .inl (gI G, (60, .inl tc))), (qtn, .inl (gI G, (60, .inl tn)))]
set_option maxHeartbeats 8000000 in
set_option maxRecDepth 100000 in
theorem cn_X4_endsFit (l : Launch) (G : mG) (qt : Nat) (qtc : Nat) (qtn : Nat) (tc : Nat → Int32) (tl : Int32) (tn : Nat → Int32) (tf : Int32) (tv : Int32) {Q : Int32 → Prop} (hw : wn_X4_endsFit tn tf Q) (sz : Nat) :
    Met l yX4_endsFit wsX4_endsFit ({ frames := 1, cells := 0, slots := 0, locals := 21 } : Room) (va_Pc [.ref qt] (mPre G (w0_X4_endsFit G qt qtc qtn tc tl tn tf tv) sz)) (va_Qi (fun (r : Int32) (u : Unit) => (r = 0 ∨ r = 1) ∧ Q r) (mBk G (va_A (w0_X4_endsFit G qt qtc qtn tc tl tn tf tv) sz) (fun (u : Unit) => (w0_X4_endsFit G qt qtc qtn tc tl tn tf tv))) (va_A (w0_X4_endsFit G qt qtc qtn tc tl tn tf tv) sz)) 0 0 (va_A (w0_X4_endsFit G qt qtc qtn tc tl tn tf tv) sz) := by
  refine ms_i (cc := cX4_endsFit) (maxL := 2) (ret := some .boolean) (post := (fun (r : Int32) (u : Unit) => (r = 0 ∨ r = 1) ∧ Q r)) (w1 := (fun (u : Unit) => (w0_X4_endsFit G qt qtc qtn tc tl tn tf tv))) (by decide) rfl (Nat.le_of_ble_eq_true rfl) ?_ sz
  intro p e s m below meth c A ls H locs hx hb hr hml hown hts hlocks hK hG hP hD hS hA hl
  have hown : s.vm.findClass RX4 = some m.cls := hown
  have hl : lv_has ls 2 [(0, .ref qt)] := hl
  have J2 : ∀ (n : Nat) (x1 : Int32) (H : Heap) (locs : List Loc) (ls : Array Slot), va_P (gD G) vwCl (w0_X4_endsFit G qt qtc qtn tc tl tn tf tv) H → va_D A (w0_X4_endsFit G qt qtc qtn tc tl tn tf tv) → va_S A s.heap H locs → lv_has ls 2 [(0, .ref qt), (1, .int x1)] → wl_n_X4_endsFit_2 tn tf Q n x1 → W p l e ({ frames := 1, cells := 0, slots := 0, locals := 21 } : Room) s m ([.ref qt] : List Value).toArray below meth c H locs 0 0 (MQ below (va_Qi (fun (r : Int32) (u : Unit) => (r = 0 ∨ r = 1) ∧ Q r) (mBk G A (fun (u : Unit) => (w0_X4_endsFit G qt qtc qtn tc tl tn tf tv))) A) ([.ref qt] : List Value).toArray s 0 0 A) (F0 m 2 ls []) := by
    intro n
    induction n with
    | zero => intro x1 H locs ls hP hD hS hl hw; exact False.elim hw
    | succ n ih =>
      intro x1 H locs ls hP hD hS hl hw
      rw [wl_n_X4_endsFit_2] at hw
      refine lv_iload_n hx hb dX4_endsFit_2 rfl (lv_at hl 1 rfl) ?_
      refine lv_aload_n hx hb dX4_endsFit_3 rfl (lv_at hl 0 rfl) ?_
      refine kcR_i (kr_V [.int x1] ⟨hx, hb, hml, hown, hts⟩ (cn_X4_parts l G qt qtc qtn tc tl tn tf tv hw H.size) (cwV 0 hts gX4_endsFit_X4_parts rfl rfl rfl (by decide +kernel) ⟨Nat.le_of_ble_eq_true rfl, Nat.le_of_ble_eq_true rfl⟩) hK hG hP hD hS hA [0, 1, 2] rfl rfl 4 0 rfl rfl rfl hl.1 rfl (Nat.le_of_ble_eq_true rfl) dX4_endsFit_4 ⟨Nat.le_of_ble_eq_true rfl, Nat.le_of_ble_eq_true rfl⟩) hP hD hS hA [0, 1, 2] rfl (fun r1 u H locs hw hP hS => ?_)
      try dsimp only at hw
      refine lv_icmp_ge (tgt := 31) hx hb dX4_endsFit_7 (by decide) (fun cd2 => ?_) (fun cd2 => ?_)
      · have hw := hw.1 cd2
        refine lv_iconst (v := 1) hx hb dX4_endsFit_31 (by decide) ?_
        exact fin_z () hx hb hr (nz (Or.inr rfl)) hlocks hK hS hP hD ⟨(Or.inr rfl), hw⟩ dX4_endsFit_32
      · have hw := hw.2 cd2
        refine lv_aload_n hx hb dX4_endsFit_10 rfl (lv_at hl 0 rfl) ?_
        refine lv_iload_n hx hb dX4_endsFit_11 rfl (lv_at hl 1 rfl) ?_
        refine kcR_i (kr_V [] ⟨hx, hb, hml, hown, hts⟩ (cn_X4_endIn l G qt qtc qtn tc tl tn tf tv x1 hw H.size) (cwV 1 hts gX4_endsFit_X4_endIn rfl rfl rfl (by decide +kernel) ⟨Nat.le_of_ble_eq_true rfl, Nat.le_of_ble_eq_true rfl⟩) hK hG hP hD hS hA [0, 1, 2] rfl rfl 4 0 rfl rfl rfl hl.1 rfl (Nat.le_of_ble_eq_true rfl) dX4_endsFit_12 ⟨Nat.le_of_ble_eq_true rfl, Nat.le_of_ble_eq_true rfl⟩) hP hD hS hA [0, 1, 2] rfl (fun r3 u H locs hw hP hS => ?_)
        try dsimp only at hw
        refine lv_aload_n hx hb dX4_endsFit_15 rfl (lv_at hl 0 rfl) ?_
        refine lv_iload_n hx hb dX4_endsFit_16 rfl (lv_at hl 1 rfl) ?_
        refine kcR_i (kr_V [.int r3] ⟨hx, hb, hml, hown, hts⟩ (cn_X4_beginIn l G qt qtc qtn tc tl tn tf tv x1 hw H.size) (cwV 1 hts gX4_endsFit_X4_beginIn rfl rfl rfl (by decide +kernel) ⟨Nat.le_of_ble_eq_true rfl, Nat.le_of_ble_eq_true rfl⟩) hK hG hP hD hS hA [0, 1, 2] rfl rfl 4 0 rfl rfl rfl hl.1 rfl (Nat.le_of_ble_eq_true rfl) dX4_endsFit_17 ⟨Nat.le_of_ble_eq_true rfl, Nat.le_of_ble_eq_true rfl⟩) hP hD hS hA [0, 1, 2] rfl (fun r4 u H locs hw hP hS => ?_)
        try dsimp only at hw
        refine lv_icmp_gt (tgt := 25) hx hb dX4_endsFit_20 (by decide) (fun cd5 => ?_) (fun cd5 => ?_)
        · have hw := hw.1 cd5
          refine lv_iinc (v := (x1 + 1)) (lv' := [(1, .int (x1 + 1)), (0, .ref qt)]) hx hb dX4_endsFit_25 hl (k := 1) rfl rfl (by decide) rfl (fun ls hl => ?_)
          refine lv_goto (tgt := 2) hx hb dX4_endsFit_28 (by decide) ?_
          exact ih (x1 + 1) _ _ _ hP hD hS (lv_sub hl [1, 0] rfl) hw
        · have hw := hw.2 cd5
          refine lv_iconst (v := 0) hx hb dX4_endsFit_23 (by decide) ?_
          exact fin_z () hx hb hr (nz (Or.inl rfl)) hlocks hK hS hP hD ⟨(Or.inl rfl), hw⟩ dX4_endsFit_24
  unfold wn_X4_endsFit at hw
  refine lv_iconst (v := 0) hx hb dX4_endsFit_0 (by decide) ?_
  refine lv_istore_n (lv' := [(1, .int (0 : Int32)), (0, .ref qt)]) hx hb dX4_endsFit_1 rfl hl (by decide) rfl (fun ls hl => ?_)
  obtain ⟨n2, hw⟩ := hw
  exact J2 n2 (0 : Int32) _ _ _ hP hD hS (lv_sub hl [1, 0] rfl) hw

abbrev w0_X5_requireTimes (G : mG) : va_W := []
set_option maxRecDepth 100000 in
theorem k_X5_requireTimes_l110 : Cond.classLink RX5 110 "java/lang/IllegalArgumentException" ∈ wsX5_requireTimes := by decide +kernel
set_option maxRecDepth 100000 in
theorem k_X5_requireTimes_i110 : Cond.initialized "java/lang/IllegalArgumentException" ∈ wsX5_requireTimes := by decide +kernel
set_option maxRecDepth 100000 in
theorem k_X5_requireTimes_a114 : ∀ w ∈ (vx_atS RX5 114 "java/lang/IllegalArgumentException" gSup).filter goodWord, w ∈ wsX5_requireTimes := by decide +kernel
set_option maxHeartbeats 8000000 in
set_option maxRecDepth 100000 in
theorem cx_X5_requireTimes (l : Launch) (hst : l.stackTraces = false) (G : mG) (a0 : Int32) (a1 : Int32) {Q : Prop} {X : String → Prop} (hw : wx_X5_requireTimes a0 a1 Q X) (sz : Nat) :
    vx_Met l yX5_requireTimes wsX5_requireTimes ({ frames := 6, cells := 1, slots := 6, locals := 90 } : Room) (va_Pc [.int a0, .int a1] (mPre G (w0_X5_requireTimes G) sz)) (va_Qv (fun (u : Unit) => Q) (mBk G (va_A (w0_X5_requireTimes G) sz) (fun (u : Unit) => (w0_X5_requireTimes G))) (va_A (w0_X5_requireTimes G) sz)) (vx_X (fun _ => True) (fun E u t => (fun (E : String) (u : Unit) => X E) E u ∧ mBk G (va_A (w0_X5_requireTimes G) sz) (fun (u : Unit) => (w0_X5_requireTimes G)) u t) (va_A (w0_X5_requireTimes G) sz)) 1 6 (va_A (w0_X5_requireTimes G) sz) := by
  refine mx_v (cc := cX5_requireTimes) (maxL := 2) (ret := none) (post := (fun (u : Unit) => Q)) (w1 := (fun (u : Unit) => (w0_X5_requireTimes G))) (px := (fun (E : String) (u : Unit) => X E)) (by decide) rfl (Nat.le_of_ble_eq_true rfl) ?_ sz
  intro p e s m below meth c A ls H locs hx hb hr hml hown hts hlocks hnt hK hG hP hD hS hA hl
  have hown : s.vm.findClass RX5 = some m.cls := hown
  have hl : lv_has ls 2 [(0, .int a0), (1, .int a1)] := hl
  have J21 : ∀ (x0 : Int32) (x1 : Int32) (H : Heap) (locs : List Loc) (ls : Array Slot), va_P (gD G) vwCl (w0_X5_requireTimes G) H → va_D A (w0_X5_requireTimes G) → va_S A s.heap H locs → lv_has ls 2 [(0, .int x0), (1, .int x1)] → wj_x_X5_requireTimes_21 Q X x0 x1 → W p l e ({ frames := 6, cells := 1, slots := 6, locals := 90 } : Room) s m ([.int a0, .int a1] : List Value).toArray below meth c H locs 0 0 (vx_MQ below (va_Qv (fun (u : Unit) => Q) (mBk G A (fun (u : Unit) => (w0_X5_requireTimes G))) A) (vx_X (fun _ => True) (fun E u t => (fun (E : String) (u : Unit) => X E) E u ∧ mBk G A (fun (u : Unit) => (w0_X5_requireTimes G)) u t) A) ([.int a0, .int a1] : List Value).toArray s 1 6 A) (F0 m 21 ls []) := by
    intro x0 x1 H locs ls hP hD hS hl hw
    unfold wj_x_X5_requireTimes_21 at hw
    exact kthw (nL := 2) "begin or end is out of range" () hx hb hst hown hts hG hnt hlocks hml hl.1 hK hS hP hD hw ⟨by decide +kernel, by decide +kernel⟩ (by decide +kernel) k_X5_requireTimes_l110 k_X5_requireTimes_i110 k_X5_requireTimes_a114 tnb_114 tgd_114 dX5_requireTimes_21 dX5_requireTimes_24 dX5_requireTimes_31 ⟨dX5_requireTimes_25, dX5_requireTimes_28⟩ ⟨by decide, by decide, by decide, by decide⟩ (Nat.le_of_ble_eq_true rfl) (Nat.le_of_ble_eq_true rfl)
  unfold wx_X5_requireTimes at hw
  refine lv_iload_n hx hb dX5_requireTimes_0 rfl (lv_at hl 0 rfl) ?_
  refine lv_if_lt (tgt := 21) hx hb dX5_requireTimes_1 (by decide) (fun cd1 => ?_) (fun cd1 => ?_)
  · have hw := hw.1 cd1
    exact J21 a0 a1 _ _ _ hP hD hS hl hw
  · have hw := hw.2 cd1
    refine lv_iload_n hx hb dX5_requireTimes_4 rfl (lv_at hl 0 rfl) ?_
    refine lv_bipush (v := 96) hx hb dX5_requireTimes_5 (by decide) ?_
    refine lv_icmp_ge (tgt := 21) hx hb dX5_requireTimes_7 (by decide) (fun cd2 => ?_) (fun cd2 => ?_)
    · have hw := hw.1 cd2
      exact J21 a0 a1 _ _ _ hP hD hS hl hw
    · have hw := hw.2 cd2
      refine lv_iload_n hx hb dX5_requireTimes_10 rfl (lv_at hl 1 rfl) ?_
      refine lv_iload_n hx hb dX5_requireTimes_11 rfl (lv_at hl 0 rfl) ?_
      refine lv_icmp_le (tgt := 21) hx hb dX5_requireTimes_12 (by decide) (fun cd3 => ?_) (fun cd3 => ?_)
      · have hw := hw.1 cd3
        exact J21 a0 a1 _ _ _ hP hD hS hl hw
      · have hw := hw.2 cd3
        refine lv_iload_n hx hb dX5_requireTimes_15 rfl (lv_at hl 1 rfl) ?_
        refine lv_bipush (v := 96) hx hb dX5_requireTimes_16 (by decide) ?_
        refine lv_icmp_le (tgt := 32) hx hb dX5_requireTimes_18 (by decide) (fun cd4 => ?_) (fun cd4 => ?_)
        · have hw := hw.1 cd4
          exact fin_x (Nat.le_of_ble_eq_true rfl) (Nat.le_of_ble_eq_true rfl) (fin_v () hx hb hr hlocks hK hS hP hD hw dX5_requireTimes_32)
        · have hw := hw.2 cd4
          exact J21 a0 a1 _ _ _ hP hD hS hl hw

abbrev w0_X5_requireFame (G : mG) : va_W := []
set_option maxRecDepth 100000 in
theorem k_X5_requireFame_l110 : Cond.classLink RX5 110 "java/lang/IllegalArgumentException" ∈ wsX5_requireFame := by decide +kernel
set_option maxRecDepth 100000 in
theorem k_X5_requireFame_i110 : Cond.initialized "java/lang/IllegalArgumentException" ∈ wsX5_requireFame := by decide +kernel
set_option maxRecDepth 100000 in
theorem k_X5_requireFame_a114 : ∀ w ∈ (vx_atS RX5 114 "java/lang/IllegalArgumentException" gSup).filter goodWord, w ∈ wsX5_requireFame := by decide +kernel
set_option maxHeartbeats 8000000 in
set_option maxRecDepth 100000 in
theorem cx_X5_requireFame (l : Launch) (hst : l.stackTraces = false) (G : mG) (a0 : Int32) {Q : Prop} {X : String → Prop} (hw : wx_X5_requireFame a0 Q X) (sz : Nat) :
    vx_Met l yX5_requireFame wsX5_requireFame ({ frames := 6, cells := 1, slots := 6, locals := 90 } : Room) (va_Pc [.int a0] (mPre G (w0_X5_requireFame G) sz)) (va_Qv (fun (u : Unit) => Q) (mBk G (va_A (w0_X5_requireFame G) sz) (fun (u : Unit) => (w0_X5_requireFame G))) (va_A (w0_X5_requireFame G) sz)) (vx_X (fun _ => True) (fun E u t => (fun (E : String) (u : Unit) => X E) E u ∧ mBk G (va_A (w0_X5_requireFame G) sz) (fun (u : Unit) => (w0_X5_requireFame G)) u t) (va_A (w0_X5_requireFame G) sz)) 1 6 (va_A (w0_X5_requireFame G) sz) := by
  refine mx_v (cc := cX5_requireFame) (maxL := 1) (ret := none) (post := (fun (u : Unit) => Q)) (w1 := (fun (u : Unit) => (w0_X5_requireFame G))) (px := (fun (E : String) (u : Unit) => X E)) (by decide) rfl (Nat.le_of_ble_eq_true rfl) ?_ sz
  intro p e s m below meth c A ls H locs hx hb hr hml hown hts hlocks hnt hK hG hP hD hS hA hl
  have hown : s.vm.findClass RX5 = some m.cls := hown
  have hl : lv_has ls 1 [(0, .int a0)] := hl
  have J11 : ∀ (x0 : Int32) (H : Heap) (locs : List Loc) (ls : Array Slot), va_P (gD G) vwCl (w0_X5_requireFame G) H → va_D A (w0_X5_requireFame G) → va_S A s.heap H locs → lv_has ls 1 [(0, .int x0)] → wj_x_X5_requireFame_11 Q X x0 → W p l e ({ frames := 6, cells := 1, slots := 6, locals := 90 } : Room) s m ([.int a0] : List Value).toArray below meth c H locs 0 0 (vx_MQ below (va_Qv (fun (u : Unit) => Q) (mBk G A (fun (u : Unit) => (w0_X5_requireFame G))) A) (vx_X (fun _ => True) (fun E u t => (fun (E : String) (u : Unit) => X E) E u ∧ mBk G A (fun (u : Unit) => (w0_X5_requireFame G)) u t) A) ([.int a0] : List Value).toArray s 1 6 A) (F0 m 11 ls []) := by
    intro x0 H locs ls hP hD hS hl hw
    unfold wj_x_X5_requireFame_11 at hw
    exact kthw (nL := 1) "the fame is out of range" () hx hb hst hown hts hG hnt hlocks hml hl.1 hK hS hP hD hw ⟨by decide +kernel, by decide +kernel⟩ (by decide +kernel) k_X5_requireFame_l110 k_X5_requireFame_i110 k_X5_requireFame_a114 tnb_114 tgd_114 dX5_requireFame_11 dX5_requireFame_14 dX5_requireFame_21 ⟨dX5_requireFame_15, dX5_requireFame_18⟩ ⟨by decide, by decide, by decide, by decide⟩ (Nat.le_of_ble_eq_true rfl) (Nat.le_of_ble_eq_true rfl)
  unfold wx_X5_requireFame at hw
  refine lv_iload_n hx hb dX5_requireFame_0 rfl (lv_at hl 0 rfl) ?_
  refine lv_iconst (v := 1) hx hb dX5_requireFame_1 (by decide) ?_
  refine lv_icmp_lt (tgt := 11) hx hb dX5_requireFame_2 (by decide) (fun cd1 => ?_) (fun cd1 => ?_)
  · have hw := hw.1 cd1
    exact J11 a0 _ _ _ hP hD hS hl hw
  · have hw := hw.2 cd1
    refine lv_iload_n hx hb dX5_requireFame_5 rfl (lv_at hl 0 rfl) ?_
    refine lv_bipush (v := 50) hx hb dX5_requireFame_6 (by decide) ?_
    refine lv_icmp_le (tgt := 22) hx hb dX5_requireFame_8 (by decide) (fun cd2 => ?_) (fun cd2 => ?_)
    · have hw := hw.1 cd2
      exact fin_x (Nat.le_of_ble_eq_true rfl) (Nat.le_of_ble_eq_true rfl) (fin_v () hx hb hr hlocks hK hS hP hD hw dX5_requireFame_22)
    · have hw := hw.2 cd2
      exact J11 a0 _ _ _ hP hD hS hl hw

abbrev w0_X5_requirePlacesFor (G : mG) (qm : Nat) (qd : Nat) (qs : Nat) (qn : Nat) (qk : Nat) (qt : Nat) (qr : Nat) (qx : Nat) (qdb : Nat) (qde : Nat) (qdf : Nat) (db : Nat → Int32) (de : Nat → Int32) (df : Nat → Int32) (dc : Int32) (dp : Int32) (dk : Int32) : va_W := [(qm, .inr (5, [.ref qd, .ref qs, .ref qn, .ref qk, .ref qt, .ref qr, .ref qx])), (qd, .inr (1, [.ref qdb, .ref qde, .ref qdf, .int dc, .int dp, .int dk])), (qdb, .inl (gI G, (14, .inl db))), (qde, .inl (gI G, (14, .inl de))), (qdf, .inl (gI G, (14, .inl df)))]
set_option maxRecDepth 100000 in
theorem k_X5_requirePlacesFor_inX5 : ∀ w ∈ u_ws RX5 TX5 7, w ∈ wsX5_requirePlacesFor := by decide +kernel
set_option maxRecDepth 100000 in
theorem k_X5_requirePlacesFor_f10 : Cond.fieldLink RX5 10 "RehearsalRoom" "day" "LRehearsalRoom$Day;" ∈ wsX5_requirePlacesFor := by decide +kernel
set_option maxRecDepth 100000 in
theorem k_X5_requirePlacesFor_inX1 : ∀ w ∈ u_ws RX1 TX1 6, w ∈ wsX5_requirePlacesFor := by decide +kernel
set_option maxRecDepth 100000 in
theorem k_X5_requirePlacesFor_f71 : Cond.fieldLink RX5 71 "RehearsalRoom$Day" "count" "I" ∈ wsX5_requirePlacesFor := by decide +kernel
set_option maxRecDepth 100000 in
theorem k_X5_requirePlacesFor_l93 : Cond.classLink RX5 93 "java/lang/IllegalStateException" ∈ wsX5_requirePlacesFor := by decide +kernel
set_option maxRecDepth 100000 in
theorem k_X5_requirePlacesFor_i93 : Cond.initialized "java/lang/IllegalStateException" ∈ wsX5_requirePlacesFor := by decide +kernel
set_option maxRecDepth 100000 in
theorem k_X5_requirePlacesFor_a97 : ∀ w ∈ (vx_atS RX5 97 "java/lang/IllegalStateException" gSup).filter goodWord, w ∈ wsX5_requirePlacesFor := by decide +kernel
set_option maxHeartbeats 8000000 in
set_option maxRecDepth 100000 in
theorem cx_X5_requirePlacesFor (l : Launch) (hst : l.stackTraces = false) (G : mG) (qm : Nat) (qd : Nat) (qs : Nat) (qn : Nat) (qk : Nat) (qt : Nat) (qr : Nat) (qx : Nat) (qdb : Nat) (qde : Nat) (qdf : Nat) (db : Nat → Int32) (de : Nat → Int32) (df : Nat → Int32) (dc : Int32) (dp : Int32) (dk : Int32) (a1 : Int32) {Q : Prop} {X : String → Prop} (hw : wx_X5_requirePlacesFor dc a1 Q X) (sz : Nat) :
    vx_Met l yX5_requirePlacesFor wsX5_requirePlacesFor ({ frames := 6, cells := 1, slots := 6, locals := 90 } : Room) (va_Pc [.ref qm, .int a1] (mPre G (w0_X5_requirePlacesFor G qm qd qs qn qk qt qr qx qdb qde qdf db de df dc dp dk) sz)) (va_Qv (fun (u : Unit) => Q) (mBk G (va_A (w0_X5_requirePlacesFor G qm qd qs qn qk qt qr qx qdb qde qdf db de df dc dp dk) sz) (fun (u : Unit) => (w0_X5_requirePlacesFor G qm qd qs qn qk qt qr qx qdb qde qdf db de df dc dp dk))) (va_A (w0_X5_requirePlacesFor G qm qd qs qn qk qt qr qx qdb qde qdf db de df dc dp dk) sz)) (vx_X (fun _ => True) (fun E u t => (fun (E : String) (u : Unit) => X E) E u ∧ mBk G (va_A (w0_X5_requirePlacesFor G qm qd qs qn qk qt qr qx qdb qde qdf db de df dc dp dk) sz) (fun (u : Unit) => (w0_X5_requirePlacesFor G qm qd qs qn qk qt qr qx qdb qde qdf db de df dc dp dk)) u t) (va_A (w0_X5_requirePlacesFor G qm qd qs qn qk qt qr qx qdb qde qdf db de df dc dp dk) sz)) 1 6 (va_A (w0_X5_requirePlacesFor G qm qd qs qn qk qt qr qx qdb qde qdf db de df dc dp dk) sz) := by
  refine mx_v (cc := cX5_requirePlacesFor) (maxL := 2) (ret := none) (post := (fun (u : Unit) => Q)) (w1 := (fun (u : Unit) => (w0_X5_requirePlacesFor G qm qd qs qn qk qt qr qx qdb qde qdf db de df dc dp dk))) (px := (fun (E : String) (u : Unit) => X E)) (by decide) rfl (Nat.le_of_ble_eq_true rfl) ?_ sz
  intro p e s m below meth c A ls H locs hx hb hr hml hown hts hlocks hnt hK hG hP hD hS hA hl
  have hown : s.vm.findClass RX5 = some m.cls := hown
  have hl : lv_has ls 2 [(0, .ref qm), (1, .int a1)] := hl
  unfold wx_X5_requirePlacesFor at hw
  refine lv_aload_n hx hb dX5_requirePlacesFor_0 rfl (lv_at hl 0 rfl) ?_
  refine va_get (D := gD G) (ci := 5) (v := .ref qd) (C := RX5) (T := TX5) (N := 7) hx hb hts k_X5_requirePlacesFor_inX5 hown hK hP 0 rfl rfl 0 (by decide) (hts _ k_X5_requirePlacesFor_f10) (fun _ h9 => h9) rfl dX5_requirePlacesFor_1 ?_
  refine va_get (D := gD G) (ci := 1) (v := .int dc) (C := RX1) (T := TX1) (N := 6) hx hb hts k_X5_requirePlacesFor_inX1 hown hK hP 1 rfl rfl 3 (by decide) (hts _ k_X5_requirePlacesFor_f71) (fun _ h9 => h9) rfl dX5_requirePlacesFor_4 ?_
  refine lv_iload_n hx hb dX5_requirePlacesFor_7 rfl (lv_at hl 1 rfl) ?_
  refine lv_iadd hx hb dX5_requirePlacesFor_8 ?_
  refine lv_bipush (v := 14) hx hb dX5_requirePlacesFor_9 (by decide) ?_
  refine lv_icmp_le (tgt := 25) hx hb dX5_requirePlacesFor_11 (by decide) (fun cd1 => ?_) (fun cd1 => ?_)
  · have hw := hw.1 cd1
    exact fin_x (Nat.le_of_ble_eq_true rfl) (Nat.le_of_ble_eq_true rfl) (fin_v () hx hb hr hlocks hK hS hP hD hw dX5_requirePlacesFor_25)
  · have hw := hw.2 cd1
    exact kthw (nL := 2) "too many rehearsals" () hx hb hst hown hts hG hnt hlocks hml hl.1 hK hS hP hD hw ⟨by decide +kernel, by decide +kernel⟩ (by decide +kernel) k_X5_requirePlacesFor_l93 k_X5_requirePlacesFor_i93 k_X5_requirePlacesFor_a97 tnb_97 tgd_97 dX5_requirePlacesFor_14 dX5_requirePlacesFor_17 dX5_requirePlacesFor_24 ⟨dX5_requirePlacesFor_18, dX5_requirePlacesFor_21⟩ ⟨by decide, by decide, by decide, by decide⟩ (Nat.le_of_ble_eq_true rfl) (Nat.le_of_ble_eq_true rfl)

abbrev w0_X5_add (G : mG) (qm : Nat) (qd : Nat) (qs : Nat) (qn : Nat) (qk : Nat) (qt : Nat) (qr : Nat) (qx : Nat) (qdb : Nat) (qde : Nat) (qdf : Nat) (qsa : Nat) (qs0 : Nat) (qs0b : Nat) (qs0e : Nat) (qs0f : Nat) (qs1 : Nat) (qs1b : Nat) (qs1e : Nat) (qs1f : Nat) (qs2 : Nat) (qs2b : Nat) (qs2e : Nat) (qs2f : Nat) (qs3 : Nat) (qs3b : Nat) (qs3e : Nat) (qs3f : Nat) (qs4 : Nat) (qs4b : Nat) (qs4e : Nat) (qs4f : Nat) (qs5 : Nat) (qs5b : Nat) (qs5e : Nat) (qs5f : Nat) (db : Nat → Int32) (de : Nat → Int32) (df : Nat → Int32) (dc : Int32) (dp : Int32) (dk : Int32) (so : Int32) (sn : Int32) (sb : Nat → Nat → Int32) (se : Nat → Nat → Int32) (sf : Nat → Nat → Int32) (sc : Nat → Int32) (sp : Nat → Int32) (sk : Nat → Int32) : va_W := [(qm, .inr (5, [.ref qd, .ref qs, .ref qn, .ref qk, .ref qt, .ref qr, .ref qx])), (qd, .inr (1, [.ref qdb, .ref qde, .ref qdf, .int dc, .int dp, .int dk])), (qdb, .inl (gI G, (14, .inl db))), (qde, .inl (gI G, (14, .inl de))), (qdf, .inl (gI G, (14, .inl df))), (qs, .inr (3, [.ref qsa, .int so, .int sn])), (qsa, .inl (gQ G, (6, .inr (.inr (.inr (.inr (g6 qs0 qs1 qs2 qs3 qs4 qs5))))))), (qs0, .inr (1, [.ref qs0b, .ref qs0e, .ref qs0f, .int (sc 0), .int (sp 0), .int (sk 0)])), (qs0b, .inl (gI G, (14, .inl (sb 0)))), (qs0e, .inl (gI G, (14, .inl (se 0)))), (qs0f, .inl (gI G, (14, .inl (sf 0)))), (qs1, .inr (1, [.ref qs1b, .ref qs1e, .ref qs1f, .int (sc 1), .int (sp 1), .int (sk 1)])), (qs1b, .inl (gI G, (14, .inl (sb 1)))), (qs1e, .inl (gI G, (14, .inl (se 1)))), (qs1f, .inl (gI G, (14, .inl (sf 1)))), (qs2, .inr (1, [.ref qs2b, .ref qs2e, .ref qs2f, .int (sc 2), .int (sp 2), .int (sk 2)])), (qs2b, .inl (gI G, (14, .inl (sb 2)))), (qs2e, .inl (gI G, (14, .inl (se 2)))), (qs2f, .inl (gI G, (14, .inl (sf 2)))), (qs3, .inr (1, [.ref qs3b, .ref qs3e, .ref qs3f, .int (sc 3), .int (sp 3), .int (sk 3)])), (qs3b, .inl (gI G, (14, .inl (sb 3)))), (qs3e, .inl (gI G, (14, .inl (se 3)))), (qs3f, .inl (gI G, (14, .inl (sf 3)))), (qs4, .inr (1, [.ref qs4b, .ref qs4e, .ref qs4f, .int (sc 4), .int (sp 4), .int (sk 4)])), (qs4b, .inl (gI G, (14, .inl (sb 4)))), (qs4e, .inl (gI G, (14, .inl (se 4)))), (qs4f, .inl (gI G, (14, .inl (sf 4)))), (qs5, .inr (1, [.ref qs5b, .ref qs5e, .ref qs5f, .int (sc 5), .int (sp 5), .int (sk 5)])), (qs5b, .inl (gI G, (14, .inl (sb 5)))), (qs5e, .inl (gI G, (14, .inl (se 5)))), (qs5f, .inl (gI G, (14, .inl (sf 5))))]
set_option maxRecDepth 100000 in
theorem k_X5_add_inX5 : ∀ w ∈ u_ws RX5 TX5 7, w ∈ wsX5_add := by decide +kernel
set_option maxRecDepth 100000 in
theorem k_X5_add_f19 : Cond.fieldLink RX5 19 "RehearsalRoom" "saved" "LRehearsalRoom$SavedDays;" ∈ wsX5_add := by decide +kernel
set_option maxRecDepth 100000 in
theorem k_X5_add_f10 : Cond.fieldLink RX5 10 "RehearsalRoom" "day" "LRehearsalRoom$Day;" ∈ wsX5_add := by decide +kernel
set_option maxRecDepth 100000 in
theorem k_X5_add_inX1 : ∀ w ∈ u_ws RX1 TX1 6, w ∈ wsX5_add := by decide +kernel
set_option maxRecDepth 100000 in
theorem k_X5_add_f71 : Cond.fieldLink RX5 71 "RehearsalRoom$Day" "count" "I" ∈ wsX5_add := by decide +kernel
set_option maxHeartbeats 8000000 in
set_option maxRecDepth 100000 in
theorem cx_X5_add (l : Launch) (hst : l.stackTraces = false) (G : mG) (qm : Nat) (qd : Nat) (qs : Nat) (qn : Nat) (qk : Nat) (qt : Nat) (qr : Nat) (qx : Nat) (qdb : Nat) (qde : Nat) (qdf : Nat) (qsa : Nat) (qs0 : Nat) (qs0b : Nat) (qs0e : Nat) (qs0f : Nat) (qs1 : Nat) (qs1b : Nat) (qs1e : Nat) (qs1f : Nat) (qs2 : Nat) (qs2b : Nat) (qs2e : Nat) (qs2f : Nat) (qs3 : Nat) (qs3b : Nat) (qs3e : Nat) (qs3f : Nat) (qs4 : Nat) (qs4b : Nat) (qs4e : Nat) (qs4f : Nat) (qs5 : Nat) (qs5b : Nat) (qs5e : Nat) (qs5f : Nat) (db : Nat → Int32) (de : Nat → Int32) (df : Nat → Int32) (dc : Int32) (dp : Int32) (dk : Int32) (so : Int32) (sn : Int32) (sb : Nat → Nat → Int32) (se : Nat → Nat → Int32) (sf : Nat → Nat → Int32) (sc : Nat → Int32) (sp : Nat → Int32) (sk : Nat → Int32) (a1 : Int32) (a2 : Int32) (a3 : Int32) {Q : Int32 → (Nat → Int32) → (Nat → Int32) → (Nat → Int32) → Int32 → Int32 → Int32 → (Nat → Nat → Int32) → (Nat → Nat → Int32) → (Nat → Nat → Int32) → (Nat → Int32) → (Nat → Int32) → (Nat → Int32) → Prop} {X : String → (Nat → Int32) → (Nat → Int32) → (Nat → Int32) → Int32 → Int32 → Int32 → (Nat → Nat → Int32) → (Nat → Nat → Int32) → (Nat → Nat → Int32) → (Nat → Int32) → (Nat → Int32) → (Nat → Int32) → Prop} (hw : wx_X5_add db de df dc dp dk so sn sb se sf sc sp sk a1 a2 a3 Q X) (sz : Nat) :
    vx_Met l yX5_add wsX5_add ({ frames := 7, cells := 3, slots := 18, locals := 111 } : Room) (va_Pc [.ref qm, .int a1, .int a2, .int a3] (mPre G (w0_X5_add G qm qd qs qn qk qt qr qx qdb qde qdf qsa qs0 qs0b qs0e qs0f qs1 qs1b qs1e qs1f qs2 qs2b qs2e qs2f qs3 qs3b qs3e qs3f qs4 qs4b qs4e qs4f qs5 qs5b qs5e qs5f db de df dc dp dk so sn sb se sf sc sp sk) sz)) (va_Qi (fun (r : Int32) (u : (Nat → Int32) × (Nat → Int32) × (Nat → Int32) × Int32 × Int32 × Int32 × (Nat → Nat → Int32) × (Nat → Nat → Int32) × (Nat → Nat → Int32) × (Nat → Int32) × (Nat → Int32) × (Nat → Int32)) => Q r u.1 u.2.1 u.2.2.1 u.2.2.2.1 u.2.2.2.2.1 u.2.2.2.2.2.1 u.2.2.2.2.2.2.1 u.2.2.2.2.2.2.2.1 u.2.2.2.2.2.2.2.2.1 u.2.2.2.2.2.2.2.2.2.1 u.2.2.2.2.2.2.2.2.2.2.1 u.2.2.2.2.2.2.2.2.2.2.2) (mBk G (va_A (w0_X5_add G qm qd qs qn qk qt qr qx qdb qde qdf qsa qs0 qs0b qs0e qs0f qs1 qs1b qs1e qs1f qs2 qs2b qs2e qs2f qs3 qs3b qs3e qs3f qs4 qs4b qs4e qs4f qs5 qs5b qs5e qs5f db de df dc dp dk so sn sb se sf sc sp sk) sz) (fun (u : (Nat → Int32) × (Nat → Int32) × (Nat → Int32) × Int32 × Int32 × Int32 × (Nat → Nat → Int32) × (Nat → Nat → Int32) × (Nat → Nat → Int32) × (Nat → Int32) × (Nat → Int32) × (Nat → Int32)) => (w0_X5_add G qm qd qs qn qk qt qr qx qdb qde qdf qsa qs0 qs0b qs0e qs0f qs1 qs1b qs1e qs1f qs2 qs2b qs2e qs2f qs3 qs3b qs3e qs3f qs4 qs4b qs4e qs4f qs5 qs5b qs5e qs5f u.1 u.2.1 u.2.2.1 u.2.2.2.1 dp dk u.2.2.2.2.1 u.2.2.2.2.2.1 u.2.2.2.2.2.2.1 u.2.2.2.2.2.2.2.1 u.2.2.2.2.2.2.2.2.1 u.2.2.2.2.2.2.2.2.2.1 u.2.2.2.2.2.2.2.2.2.2.1 u.2.2.2.2.2.2.2.2.2.2.2))) (va_A (w0_X5_add G qm qd qs qn qk qt qr qx qdb qde qdf qsa qs0 qs0b qs0e qs0f qs1 qs1b qs1e qs1f qs2 qs2b qs2e qs2f qs3 qs3b qs3e qs3f qs4 qs4b qs4e qs4f qs5 qs5b qs5e qs5f db de df dc dp dk so sn sb se sf sc sp sk) sz)) (vx_X (fun _ => True) (fun E u t => (fun (E : String) (u : (Nat → Int32) × (Nat → Int32) × (Nat → Int32) × Int32 × Int32 × Int32 × (Nat → Nat → Int32) × (Nat → Nat → Int32) × (Nat → Nat → Int32) × (Nat → Int32) × (Nat → Int32) × (Nat → Int32)) => X E u.1 u.2.1 u.2.2.1 u.2.2.2.1 u.2.2.2.2.1 u.2.2.2.2.2.1 u.2.2.2.2.2.2.1 u.2.2.2.2.2.2.2.1 u.2.2.2.2.2.2.2.2.1 u.2.2.2.2.2.2.2.2.2.1 u.2.2.2.2.2.2.2.2.2.2.1 u.2.2.2.2.2.2.2.2.2.2.2) E u ∧ mBk G (va_A (w0_X5_add G qm qd qs qn qk qt qr qx qdb qde qdf qsa qs0 qs0b qs0e qs0f qs1 qs1b qs1e qs1f qs2 qs2b qs2e qs2f qs3 qs3b qs3e qs3f qs4 qs4b qs4e qs4f qs5 qs5b qs5e qs5f db de df dc dp dk so sn sb se sf sc sp sk) sz) (fun (u : (Nat → Int32) × (Nat → Int32) × (Nat → Int32) × Int32 × Int32 × Int32 × (Nat → Nat → Int32) × (Nat → Nat → Int32) × (Nat → Nat → Int32) × (Nat → Int32) × (Nat → Int32) × (Nat → Int32)) => (w0_X5_add G qm qd qs qn qk qt qr qx qdb qde qdf qsa qs0 qs0b qs0e qs0f qs1 qs1b qs1e qs1f qs2 qs2b qs2e qs2f qs3 qs3b qs3e qs3f qs4 qs4b qs4e qs4f qs5 qs5b qs5e qs5f u.1 u.2.1 u.2.2.1 u.2.2.2.1 dp dk u.2.2.2.2.1 u.2.2.2.2.2.1 u.2.2.2.2.2.2.1 u.2.2.2.2.2.2.2.1 u.2.2.2.2.2.2.2.2.1 u.2.2.2.2.2.2.2.2.2.1 u.2.2.2.2.2.2.2.2.2.2.1 u.2.2.2.2.2.2.2.2.2.2.2)) u t) (va_A (w0_X5_add G qm qd qs qn qk qt qr qx qdb qde qdf qsa qs0 qs0b qs0e qs0f qs1 qs1b qs1e qs1f qs2 qs2b qs2e qs2f qs3 qs3b qs3e qs3f qs4 qs4b qs4e qs4f qs5 qs5b qs5e qs5f db de df dc dp dk so sn sb se sf sc sp sk) sz)) 3 18 (va_A (w0_X5_add G qm qd qs qn qk qt qr qx qdb qde qdf qsa qs0 qs0b qs0e qs0f qs1 qs1b qs1e qs1f qs2 qs2b qs2e qs2f qs3 qs3b qs3e qs3f qs4 qs4b qs4e qs4f qs5 qs5b qs5e qs5f db de df dc dp dk so sn sb se sf sc sp sk) sz) := by
  refine mx_i (cc := cX5_add) (maxL := 4) (ret := some .int) (post := (fun (r : Int32) (u : (Nat → Int32) × (Nat → Int32) × (Nat → Int32) × Int32 × Int32 × Int32 × (Nat → Nat → Int32) × (Nat → Nat → Int32) × (Nat → Nat → Int32) × (Nat → Int32) × (Nat → Int32) × (Nat → Int32)) => Q r u.1 u.2.1 u.2.2.1 u.2.2.2.1 u.2.2.2.2.1 u.2.2.2.2.2.1 u.2.2.2.2.2.2.1 u.2.2.2.2.2.2.2.1 u.2.2.2.2.2.2.2.2.1 u.2.2.2.2.2.2.2.2.2.1 u.2.2.2.2.2.2.2.2.2.2.1 u.2.2.2.2.2.2.2.2.2.2.2)) (w1 := (fun (u : (Nat → Int32) × (Nat → Int32) × (Nat → Int32) × Int32 × Int32 × Int32 × (Nat → Nat → Int32) × (Nat → Nat → Int32) × (Nat → Nat → Int32) × (Nat → Int32) × (Nat → Int32) × (Nat → Int32)) => (w0_X5_add G qm qd qs qn qk qt qr qx qdb qde qdf qsa qs0 qs0b qs0e qs0f qs1 qs1b qs1e qs1f qs2 qs2b qs2e qs2f qs3 qs3b qs3e qs3f qs4 qs4b qs4e qs4f qs5 qs5b qs5e qs5f u.1 u.2.1 u.2.2.1 u.2.2.2.1 dp dk u.2.2.2.2.1 u.2.2.2.2.2.1 u.2.2.2.2.2.2.1 u.2.2.2.2.2.2.2.1 u.2.2.2.2.2.2.2.2.1 u.2.2.2.2.2.2.2.2.2.1 u.2.2.2.2.2.2.2.2.2.2.1 u.2.2.2.2.2.2.2.2.2.2.2))) (px := (fun (E : String) (u : (Nat → Int32) × (Nat → Int32) × (Nat → Int32) × Int32 × Int32 × Int32 × (Nat → Nat → Int32) × (Nat → Nat → Int32) × (Nat → Nat → Int32) × (Nat → Int32) × (Nat → Int32) × (Nat → Int32)) => X E u.1 u.2.1 u.2.2.1 u.2.2.2.1 u.2.2.2.2.1 u.2.2.2.2.2.1 u.2.2.2.2.2.2.1 u.2.2.2.2.2.2.2.1 u.2.2.2.2.2.2.2.2.1 u.2.2.2.2.2.2.2.2.2.1 u.2.2.2.2.2.2.2.2.2.2.1 u.2.2.2.2.2.2.2.2.2.2.2)) (by decide) rfl (Nat.le_of_ble_eq_true rfl) ?_ sz
  intro p e s m below meth c A ls H locs hx hb hr hml hown hts hlocks hnt hK hG hP hD hS hA hl
  have hown : s.vm.findClass RX5 = some m.cls := hown
  have hl : lv_has ls 4 [(0, .ref qm), (1, .int a1), (2, .int a2), (3, .int a3)] := hl
  unfold wx_X5_add at hw
  refine lv_iload_n hx hb dX5_add_0 rfl (lv_at hl 1 rfl) ?_
  refine lv_iload_n hx hb dX5_add_1 rfl (lv_at hl 2 rfl) ?_
  refine kxR_v (xr_S [] ⟨hx, hb, hml, hown, hts⟩ (cx_X5_requireTimes l hst G a1 a2 hw H.size) (va_cwS 2 hts gX5_add_X5_requireTimes rfl rfl rfl (by decide +kernel) ⟨Nat.le_of_ble_eq_true rfl, Nat.le_of_ble_eq_true rfl⟩) hK hG hP hD hS hA [] rfl rfl rfl hl.1 rfl (Nat.le_of_ble_eq_true rfl) dX5_add_2 ⟨Nat.le_of_ble_eq_true rfl, Nat.le_of_ble_eq_true rfl⟩) hP hD hS hA [] rfl (fun E u ce q9 H locs hw hP hS h1 h2 h3 => kx_out (db, de, df, dc, so, sn, sb, se, sf, sc, sp, sk) hnt hlocks h1 h2 h3 hK hS hP hD hw (Nat.le_of_ble_eq_true rfl) (Nat.le_of_ble_eq_true rfl)) (fun u H locs hw hP hS => ?_)
  try dsimp only at hw
  refine lv_iload_n hx hb dX5_add_5 rfl (lv_at hl 3 rfl) ?_
  refine kxR_v (xr_S [] ⟨hx, hb, hml, hown, hts⟩ (cx_X5_requireFame l hst G a3 hw H.size) (va_cwS 1 hts gX5_add_X5_requireFame rfl rfl rfl (by decide +kernel) ⟨Nat.le_of_ble_eq_true rfl, Nat.le_of_ble_eq_true rfl⟩) hK hG hP hD hS hA [] rfl rfl rfl hl.1 rfl (Nat.le_of_ble_eq_true rfl) dX5_add_6 ⟨Nat.le_of_ble_eq_true rfl, Nat.le_of_ble_eq_true rfl⟩) hP hD hS hA [] rfl (fun E u ce q9 H locs hw hP hS h1 h2 h3 => kx_out (db, de, df, dc, so, sn, sb, se, sf, sc, sp, sk) hnt hlocks h1 h2 h3 hK hS hP hD hw (Nat.le_of_ble_eq_true rfl) (Nat.le_of_ble_eq_true rfl)) (fun u H locs hw hP hS => ?_)
  try dsimp only at hw
  refine lv_aload_n hx hb dX5_add_9 rfl (lv_at hl 0 rfl) ?_
  refine lv_iconst (v := 1) hx hb dX5_add_10 (by decide) ?_
  refine kxR_v (xr_V [] ⟨hx, hb, hml, hown, hts⟩ (cx_X5_requirePlacesFor l hst G qm qd qs qn qk qt qr qx qdb qde qdf db de df dc dp dk (1 : Int32) hw H.size) (cwV 1 hts gX5_add_X5_requirePlacesFor rfl rfl rfl (by decide +kernel) ⟨Nat.le_of_ble_eq_true rfl, Nat.le_of_ble_eq_true rfl⟩) hK hG hP hD hS hA [0, 1, 2, 3, 4] rfl rfl 5 0 rfl rfl rfl hl.1 rfl (Nat.le_of_ble_eq_true rfl) dX5_add_11 ⟨Nat.le_of_ble_eq_true rfl, Nat.le_of_ble_eq_true rfl⟩) hP hD hS hA [0, 1, 2, 3, 4] rfl (fun E u ce q9 H locs hw hP hS h1 h2 h3 => kx_out (db, de, df, dc, so, sn, sb, se, sf, sc, sp, sk) hnt hlocks h1 h2 h3 hK hS hP hD hw (Nat.le_of_ble_eq_true rfl) (Nat.le_of_ble_eq_true rfl)) (fun u H locs hw hP hS => ?_)
  try dsimp only at hw
  refine lv_aload_n hx hb dX5_add_14 rfl (lv_at hl 0 rfl) ?_
  refine va_get (D := gD G) (ci := 5) (v := .ref qs) (C := RX5) (T := TX5) (N := 7) hx hb hts k_X5_add_inX5 hown hK hP 0 rfl rfl 1 (by decide) (hts _ k_X5_add_f19) (fun _ h9 => h9) rfl dX5_add_15 ?_
  refine lv_aload_n hx hb dX5_add_18 rfl (lv_at hl 0 rfl) ?_
  refine va_get (D := gD G) (ci := 5) (v := .ref qd) (C := RX5) (T := TX5) (N := 7) hx hb hts k_X5_add_inX5 hown hK hP 0 rfl rfl 0 (by decide) (hts _ k_X5_add_f10) (fun _ h9 => h9) rfl dX5_add_19 ?_
  refine kc_v (kr_V [] ⟨hx, hb, hml, hown, hts⟩ (cn_X3_save l G qs qsa qs0 qs0b qs0e qs0f qs1 qs1b qs1e qs1f qs2 qs2b qs2e qs2f qs3 qs3b qs3e qs3f qs4 qs4b qs4e qs4f qs5 qs5b qs5e qs5f qd qdb qde qdf so sn sb se sf sc sp sk db de df dc dp dk hw H.size) (cwV 1 hts gX5_add_X3_save rfl rfl rfl (by decide +kernel) ⟨Nat.le_of_ble_eq_true rfl, Nat.le_of_ble_eq_true rfl⟩) hK hG hP hD hS hA [5, 6, 7, 8, 9, 10, 11, 12, 13, 14, 15, 16, 17, 18, 19, 20, 21, 22, 23, 24, 25, 26, 27, 28, 29, 30, 1, 2, 3, 4] rfl rfl 3 5 rfl rfl rfl hl.1 rfl (Nat.le_of_ble_eq_true rfl) dX5_add_22 ⟨Nat.le_of_ble_eq_true rfl, Nat.le_of_ble_eq_true rfl⟩) hP hD hS hA [5, 6, 7, 8, 9, 10, 11, 12, 13, 14, 15, 16, 17, 18, 19, 20, 21, 22, 23, 24, 25, 26, 27, 28, 29, 30, 1, 2, 3, 4] [0] rfl rfl rfl (by decide) (fun u H locs hw hP hD hS => ?_)
  obtain ⟨so_1, sn_2, sb_3, se_4, sf_5, sc_6, sp_7, sk_8⟩ := u
  try dsimp only at hw
  have hP := hP.sub (ws' := (w0_X5_add G qm qd qs qn qk qt qr qx qdb qde qdf qsa qs0 qs0b qs0e qs0f qs1 qs1b qs1e qs1f qs2 qs2b qs2e qs2f qs3 qs3b qs3e qs3f qs4 qs4b qs4e qs4f qs5 qs5b qs5e qs5f db de df dc dp dk so_1 sn_2 sb_3 se_4 sf_5 sc_6 sp_7 sk_8)) [0, 27, 28, 29, 30, 1, 2, 3, 4, 5, 6, 7, 8, 9, 10, 11, 12, 13, 14, 15, 16, 17, 18, 19, 20, 21, 22, 23, 24, 25, 26] rfl
  have hD := hD.sub (ws' := (w0_X5_add G qm qd qs qn qk qt qr qx qdb qde qdf qsa qs0 qs0b qs0e qs0f qs1 qs1b qs1e qs1f qs2 qs2b qs2e qs2f qs3 qs3b qs3e qs3f qs4 qs4b qs4e qs4f qs5 qs5b qs5e qs5f db de df dc dp dk so_1 sn_2 sb_3 se_4 sf_5 sc_6 sp_7 sk_8)) [0, 27, 28, 29, 30, 1, 2, 3, 4, 5, 6, 7, 8, 9, 10, 11, 12, 13, 14, 15, 16, 17, 18, 19, 20, 21, 22, 23, 24, 25, 26] rfl rfl
  refine lv_aload_n hx hb dX5_add_25 rfl (lv_at hl 0 rfl) ?_
  refine va_get (D := gD G) (ci := 5) (v := .ref qd) (C := RX5) (T := TX5) (N := 7) hx hb hts k_X5_add_inX5 hown hK hP 0 rfl rfl 0 (by decide) (hts _ k_X5_add_f10) (fun _ h9 => h9) rfl dX5_add_26 ?_
  refine lv_iload_n hx hb dX5_add_29 rfl (lv_at hl 1 rfl) ?_
  refine lv_iload_n hx hb dX5_add_30 rfl (lv_at hl 2 rfl) ?_
  refine lv_iload_n hx hb dX5_add_31 rfl (lv_at hl 3 rfl) ?_
  refine kc_v (kr_V [] ⟨hx, hb, hml, hown, hts⟩ (cn_X1_takeOn l G qd qdb qde qdf db de df dc dp dk a1 a2 a3 hw H.size) (cwV 3 hts gX5_add_X1_takeOn rfl rfl rfl (by decide +kernel) ⟨Nat.le_of_ble_eq_true rfl, Nat.le_of_ble_eq_true rfl⟩) hK hG hP hD hS hA [1, 2, 3, 4] rfl rfl 1 1 rfl rfl rfl hl.1 rfl (Nat.le_of_ble_eq_true rfl) dX5_add_32 ⟨Nat.le_of_ble_eq_true rfl, Nat.le_of_ble_eq_true rfl⟩) hP hD hS hA [1, 2, 3, 4] [0, 5, 6, 7, 8, 9, 10, 11, 12, 13, 14, 15, 16, 17, 18, 19, 20, 21, 22, 23, 24, 25, 26, 27, 28, 29, 30] rfl rfl rfl (by decide) (fun u H locs hw hP hD hS => ?_)
  obtain ⟨db_9, de_10, df_11, dc_12⟩ := u
  try dsimp only at hw
  have hP := hP.sub (ws' := (w0_X5_add G qm qd qs qn qk qt qr qx qdb qde qdf qsa qs0 qs0b qs0e qs0f qs1 qs1b qs1e qs1f qs2 qs2b qs2e qs2f qs3 qs3b qs3e qs3f qs4 qs4b qs4e qs4f qs5 qs5b qs5e qs5f db_9 de_10 df_11 dc_12 dp dk so_1 sn_2 sb_3 se_4 sf_5 sc_6 sp_7 sk_8)) [0, 27, 28, 29, 30, 1, 2, 3, 4, 5, 6, 7, 8, 9, 10, 11, 12, 13, 14, 15, 16, 17, 18, 19, 20, 21, 22, 23, 24, 25, 26] rfl
  have hD := hD.sub (ws' := (w0_X5_add G qm qd qs qn qk qt qr qx qdb qde qdf qsa qs0 qs0b qs0e qs0f qs1 qs1b qs1e qs1f qs2 qs2b qs2e qs2f qs3 qs3b qs3e qs3f qs4 qs4b qs4e qs4f qs5 qs5b qs5e qs5f db_9 de_10 df_11 dc_12 dp dk so_1 sn_2 sb_3 se_4 sf_5 sc_6 sp_7 sk_8)) [0, 27, 28, 29, 30, 1, 2, 3, 4, 5, 6, 7, 8, 9, 10, 11, 12, 13, 14, 15, 16, 17, 18, 19, 20, 21, 22, 23, 24, 25, 26] rfl rfl
  refine lv_aload_n hx hb dX5_add_35 rfl (lv_at hl 0 rfl) ?_
  refine va_get (D := gD G) (ci := 5) (v := .ref qd) (C := RX5) (T := TX5) (N := 7) hx hb hts k_X5_add_inX5 hown hK hP 0 rfl rfl 0 (by decide) (hts _ k_X5_add_f10) (fun _ h9 => h9) rfl dX5_add_36 ?_
  refine va_get (D := gD G) (ci := 1) (v := .int dc_12) (C := RX1) (T := TX1) (N := 6) hx hb hts k_X5_add_inX1 hown hK hP 1 rfl rfl 3 (by decide) (hts _ k_X5_add_f71) (fun _ h9 => h9) rfl dX5_add_39 ?_
  refine lv_iconst (v := 1) hx hb dX5_add_42 (by decide) ?_
  refine lv_isub hx hb dX5_add_43 ?_
  exact fin_x (Nat.le_of_ble_eq_true rfl) (Nat.le_of_ble_eq_true rfl) (fin_i (db_9, de_10, df_11, dc_12, so_1, sn_2, sb_3, se_4, sf_5, sc_6, sp_7, sk_8) hx hb hr hlocks hK hS hP hD hw dX5_add_44)

abbrev w0_X5_requireRehearsal (G : mG) (qm : Nat) (qd : Nat) (qs : Nat) (qn : Nat) (qk : Nat) (qt : Nat) (qr : Nat) (qx : Nat) (qdb : Nat) (qde : Nat) (qdf : Nat) (db : Nat → Int32) (de : Nat → Int32) (df : Nat → Int32) (dc : Int32) (dp : Int32) (dk : Int32) : va_W := [(qm, .inr (5, [.ref qd, .ref qs, .ref qn, .ref qk, .ref qt, .ref qr, .ref qx])), (qd, .inr (1, [.ref qdb, .ref qde, .ref qdf, .int dc, .int dp, .int dk])), (qdb, .inl (gI G, (14, .inl db))), (qde, .inl (gI G, (14, .inl de))), (qdf, .inl (gI G, (14, .inl df)))]
set_option maxRecDepth 100000 in
theorem k_X5_requireRehearsal_l331 : Cond.classLink RX5 331 "java/lang/IndexOutOfBoundsException" ∈ wsX5_requireRehearsal := by decide +kernel
set_option maxRecDepth 100000 in
theorem k_X5_requireRehearsal_i331 : Cond.initialized "java/lang/IndexOutOfBoundsException" ∈ wsX5_requireRehearsal := by decide +kernel
set_option maxRecDepth 100000 in
theorem k_X5_requireRehearsal_a335 : ∀ w ∈ (vx_atS RX5 335 "java/lang/IndexOutOfBoundsException" gSup).filter goodWord, w ∈ wsX5_requireRehearsal := by decide +kernel
set_option maxRecDepth 100000 in
theorem k_X5_requireRehearsal_inX5 : ∀ w ∈ u_ws RX5 TX5 7, w ∈ wsX5_requireRehearsal := by decide +kernel
set_option maxRecDepth 100000 in
theorem k_X5_requireRehearsal_f10 : Cond.fieldLink RX5 10 "RehearsalRoom" "day" "LRehearsalRoom$Day;" ∈ wsX5_requireRehearsal := by decide +kernel
set_option maxRecDepth 100000 in
theorem k_X5_requireRehearsal_inX1 : ∀ w ∈ u_ws RX1 TX1 6, w ∈ wsX5_requireRehearsal := by decide +kernel
set_option maxRecDepth 100000 in
theorem k_X5_requireRehearsal_f71 : Cond.fieldLink RX5 71 "RehearsalRoom$Day" "count" "I" ∈ wsX5_requireRehearsal := by decide +kernel
set_option maxHeartbeats 8000000 in
set_option maxRecDepth 100000 in
theorem cx_X5_requireRehearsal (l : Launch) (hst : l.stackTraces = false) (G : mG) (qm : Nat) (qd : Nat) (qs : Nat) (qn : Nat) (qk : Nat) (qt : Nat) (qr : Nat) (qx : Nat) (qdb : Nat) (qde : Nat) (qdf : Nat) (db : Nat → Int32) (de : Nat → Int32) (df : Nat → Int32) (dc : Int32) (dp : Int32) (dk : Int32) (a1 : Int32) {Q : Prop} {X : String → Prop} (hw : wx_X5_requireRehearsal dc a1 Q X) (sz : Nat) :
    vx_Met l yX5_requireRehearsal wsX5_requireRehearsal ({ frames := 6, cells := 1, slots := 6, locals := 90 } : Room) (va_Pc [.ref qm, .int a1] (mPre G (w0_X5_requireRehearsal G qm qd qs qn qk qt qr qx qdb qde qdf db de df dc dp dk) sz)) (va_Qv (fun (u : Unit) => Q) (mBk G (va_A (w0_X5_requireRehearsal G qm qd qs qn qk qt qr qx qdb qde qdf db de df dc dp dk) sz) (fun (u : Unit) => (w0_X5_requireRehearsal G qm qd qs qn qk qt qr qx qdb qde qdf db de df dc dp dk))) (va_A (w0_X5_requireRehearsal G qm qd qs qn qk qt qr qx qdb qde qdf db de df dc dp dk) sz)) (vx_X (fun _ => True) (fun E u t => (fun (E : String) (u : Unit) => X E) E u ∧ mBk G (va_A (w0_X5_requireRehearsal G qm qd qs qn qk qt qr qx qdb qde qdf db de df dc dp dk) sz) (fun (u : Unit) => (w0_X5_requireRehearsal G qm qd qs qn qk qt qr qx qdb qde qdf db de df dc dp dk)) u t) (va_A (w0_X5_requireRehearsal G qm qd qs qn qk qt qr qx qdb qde qdf db de df dc dp dk) sz)) 1 6 (va_A (w0_X5_requireRehearsal G qm qd qs qn qk qt qr qx qdb qde qdf db de df dc dp dk) sz) := by
  refine mx_v (cc := cX5_requireRehearsal) (maxL := 2) (ret := none) (post := (fun (u : Unit) => Q)) (w1 := (fun (u : Unit) => (w0_X5_requireRehearsal G qm qd qs qn qk qt qr qx qdb qde qdf db de df dc dp dk))) (px := (fun (E : String) (u : Unit) => X E)) (by decide) rfl (Nat.le_of_ble_eq_true rfl) ?_ sz
  intro p e s m below meth c A ls H locs hx hb hr hml hown hts hlocks hnt hK hG hP hD hS hA hl
  have hown : s.vm.findClass RX5 = some m.cls := hown
  have hl : lv_has ls 2 [(0, .ref qm), (1, .int a1)] := hl
  have J15 : ∀ (x1 : Int32) (H : Heap) (locs : List Loc) (ls : Array Slot), va_P (gD G) vwCl (w0_X5_requireRehearsal G qm qd qs qn qk qt qr qx qdb qde qdf db de df dc dp dk) H → va_D A (w0_X5_requireRehearsal G qm qd qs qn qk qt qr qx qdb qde qdf db de df dc dp dk) → va_S A s.heap H locs → lv_has ls 2 [(0, .ref qm), (1, .int x1)] → wj_x_X5_requireRehearsal_15 dc Q X x1 → W p l e ({ frames := 6, cells := 1, slots := 6, locals := 90 } : Room) s m ([.ref qm, .int a1] : List Value).toArray below meth c H locs 0 0 (vx_MQ below (va_Qv (fun (u : Unit) => Q) (mBk G A (fun (u : Unit) => (w0_X5_requireRehearsal G qm qd qs qn qk qt qr qx qdb qde qdf db de df dc dp dk))) A) (vx_X (fun _ => True) (fun E u t => (fun (E : String) (u : Unit) => X E) E u ∧ mBk G A (fun (u : Unit) => (w0_X5_requireRehearsal G qm qd qs qn qk qt qr qx qdb qde qdf db de df dc dp dk)) u t) A) ([.ref qm, .int a1] : List Value).toArray s 1 6 A) (F0 m 15 ls []) := by
    intro x1 H locs ls hP hD hS hl hw
    unfold wj_x_X5_requireRehearsal_15 at hw
    exact kthw (nL := 2) "no such rehearsal" () hx hb hst hown hts hG hnt hlocks hml hl.1 hK hS hP hD hw ⟨by decide +kernel, by decide +kernel⟩ (by decide +kernel) k_X5_requireRehearsal_l331 k_X5_requireRehearsal_i331 k_X5_requireRehearsal_a335 tnb_335 tgd_335 dX5_requireRehearsal_15 dX5_requireRehearsal_18 dX5_requireRehearsal_25 ⟨dX5_requireRehearsal_19, dX5_requireRehearsal_22⟩ ⟨by decide, by decide, by decide, by decide⟩ (Nat.le_of_ble_eq_true rfl) (Nat.le_of_ble_eq_true rfl)
  unfold wx_X5_requireRehearsal at hw
  refine lv_iload_n hx hb dX5_requireRehearsal_0 rfl (lv_at hl 1 rfl) ?_
  refine lv_if_lt (tgt := 15) hx hb dX5_requireRehearsal_1 (by decide) (fun cd1 => ?_) (fun cd1 => ?_)
  · have hw := hw.1 cd1
    exact J15 a1 _ _ _ hP hD hS hl hw
  · have hw := hw.2 cd1
    refine lv_iload_n hx hb dX5_requireRehearsal_4 rfl (lv_at hl 1 rfl) ?_
    refine lv_aload_n hx hb dX5_requireRehearsal_5 rfl (lv_at hl 0 rfl) ?_
    refine va_get (D := gD G) (ci := 5) (v := .ref qd) (C := RX5) (T := TX5) (N := 7) hx hb hts k_X5_requireRehearsal_inX5 hown hK hP 0 rfl rfl 0 (by decide) (hts _ k_X5_requireRehearsal_f10) (fun _ h9 => h9) rfl dX5_requireRehearsal_6 ?_
    refine va_get (D := gD G) (ci := 1) (v := .int dc) (C := RX1) (T := TX1) (N := 6) hx hb hts k_X5_requireRehearsal_inX1 hown hK hP 1 rfl rfl 3 (by decide) (hts _ k_X5_requireRehearsal_f71) (fun _ h9 => h9) rfl dX5_requireRehearsal_9 ?_
    refine lv_icmp_lt (tgt := 26) hx hb dX5_requireRehearsal_12 (by decide) (fun cd2 => ?_) (fun cd2 => ?_)
    · have hw := hw.1 cd2
      exact fin_x (Nat.le_of_ble_eq_true rfl) (Nat.le_of_ble_eq_true rfl) (fin_v () hx hb hr hlocks hK hS hP hD hw dX5_requireRehearsal_26)
    · have hw := hw.2 cd2
      exact J15 a1 _ _ _ hP hD hS hl hw

abbrev w0_X5_strike (G : mG) (qm : Nat) (qd : Nat) (qs : Nat) (qn : Nat) (qk : Nat) (qt : Nat) (qr : Nat) (qx : Nat) (qdb : Nat) (qde : Nat) (qdf : Nat) (qsa : Nat) (qs0 : Nat) (qs0b : Nat) (qs0e : Nat) (qs0f : Nat) (qs1 : Nat) (qs1b : Nat) (qs1e : Nat) (qs1f : Nat) (qs2 : Nat) (qs2b : Nat) (qs2e : Nat) (qs2f : Nat) (qs3 : Nat) (qs3b : Nat) (qs3e : Nat) (qs3f : Nat) (qs4 : Nat) (qs4b : Nat) (qs4e : Nat) (qs4f : Nat) (qs5 : Nat) (qs5b : Nat) (qs5e : Nat) (qs5f : Nat) (db : Nat → Int32) (de : Nat → Int32) (df : Nat → Int32) (dc : Int32) (dp : Int32) (dk : Int32) (so : Int32) (sn : Int32) (sb : Nat → Nat → Int32) (se : Nat → Nat → Int32) (sf : Nat → Nat → Int32) (sc : Nat → Int32) (sp : Nat → Int32) (sk : Nat → Int32) : va_W := [(qm, .inr (5, [.ref qd, .ref qs, .ref qn, .ref qk, .ref qt, .ref qr, .ref qx])), (qd, .inr (1, [.ref qdb, .ref qde, .ref qdf, .int dc, .int dp, .int dk])), (qdb, .inl (gI G, (14, .inl db))), (qde, .inl (gI G, (14, .inl de))), (qdf, .inl (gI G, (14, .inl df))), (qs, .inr (3, [.ref qsa, .int so, .int sn])), (qsa, .inl (gQ G, (6, .inr (.inr (.inr (.inr (g6 qs0 qs1 qs2 qs3 qs4 qs5))))))), (qs0, .inr (1, [.ref qs0b, .ref qs0e, .ref qs0f, .int (sc 0), .int (sp 0), .int (sk 0)])), (qs0b, .inl (gI G, (14, .inl (sb 0)))), (qs0e, .inl (gI G, (14, .inl (se 0)))), (qs0f, .inl (gI G, (14, .inl (sf 0)))), (qs1, .inr (1, [.ref qs1b, .ref qs1e, .ref qs1f, .int (sc 1), .int (sp 1), .int (sk 1)])), (qs1b, .inl (gI G, (14, .inl (sb 1)))), (qs1e, .inl (gI G, (14, .inl (se 1)))), (qs1f, .inl (gI G, (14, .inl (sf 1)))), (qs2, .inr (1, [.ref qs2b, .ref qs2e, .ref qs2f, .int (sc 2), .int (sp 2), .int (sk 2)])), (qs2b, .inl (gI G, (14, .inl (sb 2)))), (qs2e, .inl (gI G, (14, .inl (se 2)))), (qs2f, .inl (gI G, (14, .inl (sf 2)))), (qs3, .inr (1, [.ref qs3b, .ref qs3e, .ref qs3f, .int (sc 3), .int (sp 3), .int (sk 3)])), (qs3b, .inl (gI G, (14, .inl (sb 3)))), (qs3e, .inl (gI G, (14, .inl (se 3)))), (qs3f, .inl (gI G, (14, .inl (sf 3)))), (qs4, .inr (1, [.ref qs4b, .ref qs4e, .ref qs4f, .int (sc 4), .int (sp 4), .int (sk 4)])), (qs4b, .inl (gI G, (14, .inl (sb 4)))), (qs4e, .inl (gI G, (14, .inl (se 4)))), (qs4f, .inl (gI G, (14, .inl (sf 4)))), (qs5, .inr (1, [.ref qs5b, .ref qs5e, .ref qs5f, .int (sc 5), .int (sp 5), .int (sk 5)])), (qs5b, .inl (gI G, (14, .inl (sb 5)))), (qs5e, .inl (gI G, (14, .inl (se 5)))), (qs5f, .inl (gI G, (14, .inl (sf 5))))]
set_option maxRecDepth 100000 in
theorem k_X5_strike_inX5 : ∀ w ∈ u_ws RX5 TX5 7, w ∈ wsX5_strike := by decide +kernel
set_option maxRecDepth 100000 in
theorem k_X5_strike_f10 : Cond.fieldLink RX5 10 "RehearsalRoom" "day" "LRehearsalRoom$Day;" ∈ wsX5_strike := by decide +kernel
set_option maxRecDepth 100000 in
theorem k_X5_strike_inX1 : ∀ w ∈ u_ws RX1 TX1 6, w ∈ wsX5_strike := by decide +kernel
set_option maxRecDepth 100000 in
theorem k_X5_strike_f78 : Cond.fieldLink RX5 78 "RehearsalRoom$Day" "fames" "[I" ∈ wsX5_strike := by decide +kernel
set_option maxRecDepth 100000 in
theorem k_X5_strike_f19 : Cond.fieldLink RX5 19 "RehearsalRoom" "saved" "LRehearsalRoom$SavedDays;" ∈ wsX5_strike := by decide +kernel
set_option maxHeartbeats 8000000 in
set_option maxRecDepth 100000 in
theorem cx_X5_strike (l : Launch) (hst : l.stackTraces = false) (G : mG) (qm : Nat) (qd : Nat) (qs : Nat) (qn : Nat) (qk : Nat) (qt : Nat) (qr : Nat) (qx : Nat) (qdb : Nat) (qde : Nat) (qdf : Nat) (qsa : Nat) (qs0 : Nat) (qs0b : Nat) (qs0e : Nat) (qs0f : Nat) (qs1 : Nat) (qs1b : Nat) (qs1e : Nat) (qs1f : Nat) (qs2 : Nat) (qs2b : Nat) (qs2e : Nat) (qs2f : Nat) (qs3 : Nat) (qs3b : Nat) (qs3e : Nat) (qs3f : Nat) (qs4 : Nat) (qs4b : Nat) (qs4e : Nat) (qs4f : Nat) (qs5 : Nat) (qs5b : Nat) (qs5e : Nat) (qs5f : Nat) (db : Nat → Int32) (de : Nat → Int32) (df : Nat → Int32) (dc : Int32) (dp : Int32) (dk : Int32) (so : Int32) (sn : Int32) (sb : Nat → Nat → Int32) (se : Nat → Nat → Int32) (sf : Nat → Nat → Int32) (sc : Nat → Int32) (sp : Nat → Int32) (sk : Nat → Int32) (a1 : Int32) {Q : Int32 → (Nat → Int32) → (Nat → Int32) → (Nat → Int32) → Int32 → Int32 → Int32 → Int32 → (Nat → Nat → Int32) → (Nat → Nat → Int32) → (Nat → Nat → Int32) → (Nat → Int32) → (Nat → Int32) → (Nat → Int32) → Prop} {X : String → (Nat → Int32) → (Nat → Int32) → (Nat → Int32) → Int32 → Int32 → Int32 → Int32 → (Nat → Nat → Int32) → (Nat → Nat → Int32) → (Nat → Nat → Int32) → (Nat → Int32) → (Nat → Int32) → (Nat → Int32) → Prop} (hw : wx_X5_strike db de df dc dp dk so sn sb se sf sc sp sk a1 Q X) (sz : Nat) :
    vx_Met l yX5_strike wsX5_strike ({ frames := 7, cells := 1, slots := 6, locals := 111 } : Room) (va_Pc [.ref qm, .int a1] (mPre G (w0_X5_strike G qm qd qs qn qk qt qr qx qdb qde qdf qsa qs0 qs0b qs0e qs0f qs1 qs1b qs1e qs1f qs2 qs2b qs2e qs2f qs3 qs3b qs3e qs3f qs4 qs4b qs4e qs4f qs5 qs5b qs5e qs5f db de df dc dp dk so sn sb se sf sc sp sk) sz)) (va_Qi (fun (r : Int32) (u : (Nat → Int32) × (Nat → Int32) × (Nat → Int32) × Int32 × Int32 × Int32 × Int32 × (Nat → Nat → Int32) × (Nat → Nat → Int32) × (Nat → Nat → Int32) × (Nat → Int32) × (Nat → Int32) × (Nat → Int32)) => Q r u.1 u.2.1 u.2.2.1 u.2.2.2.1 u.2.2.2.2.1 u.2.2.2.2.2.1 u.2.2.2.2.2.2.1 u.2.2.2.2.2.2.2.1 u.2.2.2.2.2.2.2.2.1 u.2.2.2.2.2.2.2.2.2.1 u.2.2.2.2.2.2.2.2.2.2.1 u.2.2.2.2.2.2.2.2.2.2.2.1 u.2.2.2.2.2.2.2.2.2.2.2.2) (mBk G (va_A (w0_X5_strike G qm qd qs qn qk qt qr qx qdb qde qdf qsa qs0 qs0b qs0e qs0f qs1 qs1b qs1e qs1f qs2 qs2b qs2e qs2f qs3 qs3b qs3e qs3f qs4 qs4b qs4e qs4f qs5 qs5b qs5e qs5f db de df dc dp dk so sn sb se sf sc sp sk) sz) (fun (u : (Nat → Int32) × (Nat → Int32) × (Nat → Int32) × Int32 × Int32 × Int32 × Int32 × (Nat → Nat → Int32) × (Nat → Nat → Int32) × (Nat → Nat → Int32) × (Nat → Int32) × (Nat → Int32) × (Nat → Int32)) => (w0_X5_strike G qm qd qs qn qk qt qr qx qdb qde qdf qsa qs0 qs0b qs0e qs0f qs1 qs1b qs1e qs1f qs2 qs2b qs2e qs2f qs3 qs3b qs3e qs3f qs4 qs4b qs4e qs4f qs5 qs5b qs5e qs5f u.1 u.2.1 u.2.2.1 u.2.2.2.1 dp u.2.2.2.2.1 u.2.2.2.2.2.1 u.2.2.2.2.2.2.1 u.2.2.2.2.2.2.2.1 u.2.2.2.2.2.2.2.2.1 u.2.2.2.2.2.2.2.2.2.1 u.2.2.2.2.2.2.2.2.2.2.1 u.2.2.2.2.2.2.2.2.2.2.2.1 u.2.2.2.2.2.2.2.2.2.2.2.2))) (va_A (w0_X5_strike G qm qd qs qn qk qt qr qx qdb qde qdf qsa qs0 qs0b qs0e qs0f qs1 qs1b qs1e qs1f qs2 qs2b qs2e qs2f qs3 qs3b qs3e qs3f qs4 qs4b qs4e qs4f qs5 qs5b qs5e qs5f db de df dc dp dk so sn sb se sf sc sp sk) sz)) (vx_X (fun _ => True) (fun E u t => (fun (E : String) (u : (Nat → Int32) × (Nat → Int32) × (Nat → Int32) × Int32 × Int32 × Int32 × Int32 × (Nat → Nat → Int32) × (Nat → Nat → Int32) × (Nat → Nat → Int32) × (Nat → Int32) × (Nat → Int32) × (Nat → Int32)) => X E u.1 u.2.1 u.2.2.1 u.2.2.2.1 u.2.2.2.2.1 u.2.2.2.2.2.1 u.2.2.2.2.2.2.1 u.2.2.2.2.2.2.2.1 u.2.2.2.2.2.2.2.2.1 u.2.2.2.2.2.2.2.2.2.1 u.2.2.2.2.2.2.2.2.2.2.1 u.2.2.2.2.2.2.2.2.2.2.2.1 u.2.2.2.2.2.2.2.2.2.2.2.2) E u ∧ mBk G (va_A (w0_X5_strike G qm qd qs qn qk qt qr qx qdb qde qdf qsa qs0 qs0b qs0e qs0f qs1 qs1b qs1e qs1f qs2 qs2b qs2e qs2f qs3 qs3b qs3e qs3f qs4 qs4b qs4e qs4f qs5 qs5b qs5e qs5f db de df dc dp dk so sn sb se sf sc sp sk) sz) (fun (u : (Nat → Int32) × (Nat → Int32) × (Nat → Int32) × Int32 × Int32 × Int32 × Int32 × (Nat → Nat → Int32) × (Nat → Nat → Int32) × (Nat → Nat → Int32) × (Nat → Int32) × (Nat → Int32) × (Nat → Int32)) => (w0_X5_strike G qm qd qs qn qk qt qr qx qdb qde qdf qsa qs0 qs0b qs0e qs0f qs1 qs1b qs1e qs1f qs2 qs2b qs2e qs2f qs3 qs3b qs3e qs3f qs4 qs4b qs4e qs4f qs5 qs5b qs5e qs5f u.1 u.2.1 u.2.2.1 u.2.2.2.1 dp u.2.2.2.2.1 u.2.2.2.2.2.1 u.2.2.2.2.2.2.1 u.2.2.2.2.2.2.2.1 u.2.2.2.2.2.2.2.2.1 u.2.2.2.2.2.2.2.2.2.1 u.2.2.2.2.2.2.2.2.2.2.1 u.2.2.2.2.2.2.2.2.2.2.2.1 u.2.2.2.2.2.2.2.2.2.2.2.2)) u t) (va_A (w0_X5_strike G qm qd qs qn qk qt qr qx qdb qde qdf qsa qs0 qs0b qs0e qs0f qs1 qs1b qs1e qs1f qs2 qs2b qs2e qs2f qs3 qs3b qs3e qs3f qs4 qs4b qs4e qs4f qs5 qs5b qs5e qs5f db de df dc dp dk so sn sb se sf sc sp sk) sz)) 1 6 (va_A (w0_X5_strike G qm qd qs qn qk qt qr qx qdb qde qdf qsa qs0 qs0b qs0e qs0f qs1 qs1b qs1e qs1f qs2 qs2b qs2e qs2f qs3 qs3b qs3e qs3f qs4 qs4b qs4e qs4f qs5 qs5b qs5e qs5f db de df dc dp dk so sn sb se sf sc sp sk) sz) := by
  refine mx_i (cc := cX5_strike) (maxL := 3) (ret := some .int) (post := (fun (r : Int32) (u : (Nat → Int32) × (Nat → Int32) × (Nat → Int32) × Int32 × Int32 × Int32 × Int32 × (Nat → Nat → Int32) × (Nat → Nat → Int32) × (Nat → Nat → Int32) × (Nat → Int32) × (Nat → Int32) × (Nat → Int32)) => Q r u.1 u.2.1 u.2.2.1 u.2.2.2.1 u.2.2.2.2.1 u.2.2.2.2.2.1 u.2.2.2.2.2.2.1 u.2.2.2.2.2.2.2.1 u.2.2.2.2.2.2.2.2.1 u.2.2.2.2.2.2.2.2.2.1 u.2.2.2.2.2.2.2.2.2.2.1 u.2.2.2.2.2.2.2.2.2.2.2.1 u.2.2.2.2.2.2.2.2.2.2.2.2)) (w1 := (fun (u : (Nat → Int32) × (Nat → Int32) × (Nat → Int32) × Int32 × Int32 × Int32 × Int32 × (Nat → Nat → Int32) × (Nat → Nat → Int32) × (Nat → Nat → Int32) × (Nat → Int32) × (Nat → Int32) × (Nat → Int32)) => (w0_X5_strike G qm qd qs qn qk qt qr qx qdb qde qdf qsa qs0 qs0b qs0e qs0f qs1 qs1b qs1e qs1f qs2 qs2b qs2e qs2f qs3 qs3b qs3e qs3f qs4 qs4b qs4e qs4f qs5 qs5b qs5e qs5f u.1 u.2.1 u.2.2.1 u.2.2.2.1 dp u.2.2.2.2.1 u.2.2.2.2.2.1 u.2.2.2.2.2.2.1 u.2.2.2.2.2.2.2.1 u.2.2.2.2.2.2.2.2.1 u.2.2.2.2.2.2.2.2.2.1 u.2.2.2.2.2.2.2.2.2.2.1 u.2.2.2.2.2.2.2.2.2.2.2.1 u.2.2.2.2.2.2.2.2.2.2.2.2))) (px := (fun (E : String) (u : (Nat → Int32) × (Nat → Int32) × (Nat → Int32) × Int32 × Int32 × Int32 × Int32 × (Nat → Nat → Int32) × (Nat → Nat → Int32) × (Nat → Nat → Int32) × (Nat → Int32) × (Nat → Int32) × (Nat → Int32)) => X E u.1 u.2.1 u.2.2.1 u.2.2.2.1 u.2.2.2.2.1 u.2.2.2.2.2.1 u.2.2.2.2.2.2.1 u.2.2.2.2.2.2.2.1 u.2.2.2.2.2.2.2.2.1 u.2.2.2.2.2.2.2.2.2.1 u.2.2.2.2.2.2.2.2.2.2.1 u.2.2.2.2.2.2.2.2.2.2.2.1 u.2.2.2.2.2.2.2.2.2.2.2.2)) (by decide) rfl (Nat.le_of_ble_eq_true rfl) ?_ sz
  intro p e s m below meth c A ls H locs hx hb hr hml hown hts hlocks hnt hK hG hP hD hS hA hl
  have hown : s.vm.findClass RX5 = some m.cls := hown
  have hl : lv_has ls 3 [(0, .ref qm), (1, .int a1)] := hl
  unfold wx_X5_strike at hw
  refine lv_aload_n hx hb dX5_strike_0 rfl (lv_at hl 0 rfl) ?_
  refine lv_iload_n hx hb dX5_strike_1 rfl (lv_at hl 1 rfl) ?_
  refine kxR_v (xr_V [] ⟨hx, hb, hml, hown, hts⟩ (cx_X5_requireRehearsal l hst G qm qd qs qn qk qt qr qx qdb qde qdf db de df dc dp dk a1 hw H.size) (cwV 1 hts gX5_strike_X5_requireRehearsal rfl rfl rfl (by decide +kernel) ⟨Nat.le_of_ble_eq_true rfl, Nat.le_of_ble_eq_true rfl⟩) hK hG hP hD hS hA [0, 1, 2, 3, 4] rfl rfl 5 0 rfl rfl rfl hl.1 rfl (Nat.le_of_ble_eq_true rfl) dX5_strike_2 ⟨Nat.le_of_ble_eq_true rfl, Nat.le_of_ble_eq_true rfl⟩) hP hD hS hA [0, 1, 2, 3, 4] rfl (fun E u ce q9 H locs hw hP hS h1 h2 h3 => kx_out (db, de, df, dc, dk, so, sn, sb, se, sf, sc, sp, sk) hnt hlocks h1 h2 h3 hK hS hP hD hw (Nat.le_of_ble_eq_true rfl) (Nat.le_of_ble_eq_true rfl)) (fun u H locs hw hP hS => ?_)
  try dsimp only at hw
  refine lv_aload_n hx hb dX5_strike_5 rfl (lv_at hl 0 rfl) ?_
  refine va_get (D := gD G) (ci := 5) (v := .ref qd) (C := RX5) (T := TX5) (N := 7) hx hb hts k_X5_strike_inX5 hown hK hP 0 rfl rfl 0 (by decide) (hts _ k_X5_strike_f10) (fun _ h9 => h9) rfl dX5_strike_6 ?_
  refine va_get (D := gD G) (ci := 1) (v := .ref qdf) (C := RX1) (T := TX1) (N := 6) hx hb hts k_X5_strike_inX1 hown hK hP 1 rfl rfl 2 (by decide) (hts _ k_X5_strike_f78) (fun _ h9 => h9) rfl dX5_strike_9 ?_
  refine lv_iload_n hx hb dX5_strike_12 rfl (lv_at hl 1 rfl) ?_
  obtain ⟨h1, hw⟩ := hw
  refine va_iald hx hb hK hP 4 0 rfl rfl h1 dX5_strike_13 ?_
  refine lv_istore_n (lv' := [(2, .int (df a1.toNatClampNeg)), (0, .ref qm), (1, .int a1)]) hx hb dX5_strike_14 rfl hl (by decide) rfl (fun ls hl => ?_)
  refine lv_aload_n hx hb dX5_strike_15 rfl (lv_at hl 1 rfl) ?_
  refine va_get (D := gD G) (ci := 5) (v := .ref qs) (C := RX5) (T := TX5) (N := 7) hx hb hts k_X5_strike_inX5 hown hK hP 0 rfl rfl 1 (by decide) (hts _ k_X5_strike_f19) (fun _ h9 => h9) rfl dX5_strike_16 ?_
  refine lv_aload_n hx hb dX5_strike_19 rfl (lv_at hl 1 rfl) ?_
  refine va_get (D := gD G) (ci := 5) (v := .ref qd) (C := RX5) (T := TX5) (N := 7) hx hb hts k_X5_strike_inX5 hown hK hP 0 rfl rfl 0 (by decide) (hts _ k_X5_strike_f10) (fun _ h9 => h9) rfl dX5_strike_20 ?_
  refine kc_v (kr_V [] ⟨hx, hb, hml, hown, hts⟩ (cn_X3_save l G qs qsa qs0 qs0b qs0e qs0f qs1 qs1b qs1e qs1f qs2 qs2b qs2e qs2f qs3 qs3b qs3e qs3f qs4 qs4b qs4e qs4f qs5 qs5b qs5e qs5f qd qdb qde qdf so sn sb se sf sc sp sk db de df dc dp dk hw H.size) (cwV 1 hts gX5_strike_X3_save rfl rfl rfl (by decide +kernel) ⟨Nat.le_of_ble_eq_true rfl, Nat.le_of_ble_eq_true rfl⟩) hK hG hP hD hS hA [5, 6, 7, 8, 9, 10, 11, 12, 13, 14, 15, 16, 17, 18, 19, 20, 21, 22, 23, 24, 25, 26, 27, 28, 29, 30, 1, 2, 3, 4] rfl rfl 3 5 rfl rfl rfl hl.1 rfl (Nat.le_of_ble_eq_true rfl) dX5_strike_23 ⟨Nat.le_of_ble_eq_true rfl, Nat.le_of_ble_eq_true rfl⟩) hP hD hS hA [5, 6, 7, 8, 9, 10, 11, 12, 13, 14, 15, 16, 17, 18, 19, 20, 21, 22, 23, 24, 25, 26, 27, 28, 29, 30, 1, 2, 3, 4] [0] rfl rfl rfl (by decide) (fun u H locs hw hP hD hS => ?_)
  obtain ⟨so_2, sn_3, sb_4, se_5, sf_6, sc_7, sp_8, sk_9⟩ := u
  try dsimp only at hw
  have hP := hP.sub (ws' := (w0_X5_strike G qm qd qs qn qk qt qr qx qdb qde qdf qsa qs0 qs0b qs0e qs0f qs1 qs1b qs1e qs1f qs2 qs2b qs2e qs2f qs3 qs3b qs3e qs3f qs4 qs4b qs4e qs4f qs5 qs5b qs5e qs5f db de df dc dp dk so_2 sn_3 sb_4 se_5 sf_6 sc_7 sp_8 sk_9)) [0, 27, 28, 29, 30, 1, 2, 3, 4, 5, 6, 7, 8, 9, 10, 11, 12, 13, 14, 15, 16, 17, 18, 19, 20, 21, 22, 23, 24, 25, 26] rfl
  have hD := hD.sub (ws' := (w0_X5_strike G qm qd qs qn qk qt qr qx qdb qde qdf qsa qs0 qs0b qs0e qs0f qs1 qs1b qs1e qs1f qs2 qs2b qs2e qs2f qs3 qs3b qs3e qs3f qs4 qs4b qs4e qs4f qs5 qs5b qs5e qs5f db de df dc dp dk so_2 sn_3 sb_4 se_5 sf_6 sc_7 sp_8 sk_9)) [0, 27, 28, 29, 30, 1, 2, 3, 4, 5, 6, 7, 8, 9, 10, 11, 12, 13, 14, 15, 16, 17, 18, 19, 20, 21, 22, 23, 24, 25, 26] rfl rfl
  refine lv_aload_n hx hb dX5_strike_26 rfl (lv_at hl 1 rfl) ?_
  refine va_get (D := gD G) (ci := 5) (v := .ref qd) (C := RX5) (T := TX5) (N := 7) hx hb hts k_X5_strike_inX5 hown hK hP 0 rfl rfl 0 (by decide) (hts _ k_X5_strike_f10) (fun _ h9 => h9) rfl dX5_strike_27 ?_
  refine lv_iload_n hx hb dX5_strike_30 rfl (lv_at hl 2 rfl) ?_
  refine kc_v (kr_V [] ⟨hx, hb, hml, hown, hts⟩ (cn_X1_takeOut l G qd qdb qde qdf db de df dc dp dk a1 hw H.size) (cwV 1 hts gX5_strike_X1_takeOut rfl rfl rfl (by decide +kernel) ⟨Nat.le_of_ble_eq_true rfl, Nat.le_of_ble_eq_true rfl⟩) hK hG hP hD hS hA [1, 2, 3, 4] rfl rfl 1 1 rfl rfl rfl hl.1 rfl (Nat.le_of_ble_eq_true rfl) dX5_strike_31 ⟨Nat.le_of_ble_eq_true rfl, Nat.le_of_ble_eq_true rfl⟩) hP hD hS hA [1, 2, 3, 4] [0, 5, 6, 7, 8, 9, 10, 11, 12, 13, 14, 15, 16, 17, 18, 19, 20, 21, 22, 23, 24, 25, 26, 27, 28, 29, 30] rfl rfl rfl (by decide) (fun u H locs hw hP hD hS => ?_)
  obtain ⟨db_10, de_11, df_12, dc_13, dk_14⟩ := u
  try dsimp only at hw
  have hP := hP.sub (ws' := (w0_X5_strike G qm qd qs qn qk qt qr qx qdb qde qdf qsa qs0 qs0b qs0e qs0f qs1 qs1b qs1e qs1f qs2 qs2b qs2e qs2f qs3 qs3b qs3e qs3f qs4 qs4b qs4e qs4f qs5 qs5b qs5e qs5f db_10 de_11 df_12 dc_13 dp dk_14 so_2 sn_3 sb_4 se_5 sf_6 sc_7 sp_8 sk_9)) [0, 27, 28, 29, 30, 1, 2, 3, 4, 5, 6, 7, 8, 9, 10, 11, 12, 13, 14, 15, 16, 17, 18, 19, 20, 21, 22, 23, 24, 25, 26] rfl
  have hD := hD.sub (ws' := (w0_X5_strike G qm qd qs qn qk qt qr qx qdb qde qdf qsa qs0 qs0b qs0e qs0f qs1 qs1b qs1e qs1f qs2 qs2b qs2e qs2f qs3 qs3b qs3e qs3f qs4 qs4b qs4e qs4f qs5 qs5b qs5e qs5f db_10 de_11 df_12 dc_13 dp dk_14 so_2 sn_3 sb_4 se_5 sf_6 sc_7 sp_8 sk_9)) [0, 27, 28, 29, 30, 1, 2, 3, 4, 5, 6, 7, 8, 9, 10, 11, 12, 13, 14, 15, 16, 17, 18, 19, 20, 21, 22, 23, 24, 25, 26] rfl rfl
  refine lv_iload_n hx hb dX5_strike_34 rfl (lv_at hl 0 rfl) ?_
  exact fin_x (Nat.le_of_ble_eq_true rfl) (Nat.le_of_ble_eq_true rfl) (fin_i (db_10, de_11, df_12, dc_13, dk_14, so_2, sn_3, sb_4, se_5, sf_6, sc_7, sp_8, sk_9) hx hb hr hlocks hK hS hP hD hw dX5_strike_35)

abbrev w0_X5_move (G : mG) (qm : Nat) (qd : Nat) (qs : Nat) (qn : Nat) (qk : Nat) (qt : Nat) (qr : Nat) (qx : Nat) (qdb : Nat) (qde : Nat) (qdf : Nat) (qsa : Nat) (qs0 : Nat) (qs0b : Nat) (qs0e : Nat) (qs0f : Nat) (qs1 : Nat) (qs1b : Nat) (qs1e : Nat) (qs1f : Nat) (qs2 : Nat) (qs2b : Nat) (qs2e : Nat) (qs2f : Nat) (qs3 : Nat) (qs3b : Nat) (qs3e : Nat) (qs3f : Nat) (qs4 : Nat) (qs4b : Nat) (qs4e : Nat) (qs4f : Nat) (qs5 : Nat) (qs5b : Nat) (qs5e : Nat) (qs5f : Nat) (db : Nat → Int32) (de : Nat → Int32) (df : Nat → Int32) (dc : Int32) (dp : Int32) (dk : Int32) (so : Int32) (sn : Int32) (sb : Nat → Nat → Int32) (se : Nat → Nat → Int32) (sf : Nat → Nat → Int32) (sc : Nat → Int32) (sp : Nat → Int32) (sk : Nat → Int32) : va_W := [(qm, .inr (5, [.ref qd, .ref qs, .ref qn, .ref qk, .ref qt, .ref qr, .ref qx])), (qd, .inr (1, [.ref qdb, .ref qde, .ref qdf, .int dc, .int dp, .int dk])), (qdb, .inl (gI G, (14, .inl db))), (qde, .inl (gI G, (14, .inl de))), (qdf, .inl (gI G, (14, .inl df))), (qs, .inr (3, [.ref qsa, .int so, .int sn])), (qsa, .inl (gQ G, (6, .inr (.inr (.inr (.inr (g6 qs0 qs1 qs2 qs3 qs4 qs5))))))), (qs0, .inr (1, [.ref qs0b, .ref qs0e, .ref qs0f, .int (sc 0), .int (sp 0), .int (sk 0)])), (qs0b, .inl (gI G, (14, .inl (sb 0)))), (qs0e, .inl (gI G, (14, .inl (se 0)))), (qs0f, .inl (gI G, (14, .inl (sf 0)))), (qs1, .inr (1, [.ref qs1b, .ref qs1e, .ref qs1f, .int (sc 1), .int (sp 1), .int (sk 1)])), (qs1b, .inl (gI G, (14, .inl (sb 1)))), (qs1e, .inl (gI G, (14, .inl (se 1)))), (qs1f, .inl (gI G, (14, .inl (sf 1)))), (qs2, .inr (1, [.ref qs2b, .ref qs2e, .ref qs2f, .int (sc 2), .int (sp 2), .int (sk 2)])), (qs2b, .inl (gI G, (14, .inl (sb 2)))), (qs2e, .inl (gI G, (14, .inl (se 2)))), (qs2f, .inl (gI G, (14, .inl (sf 2)))), (qs3, .inr (1, [.ref qs3b, .ref qs3e, .ref qs3f, .int (sc 3), .int (sp 3), .int (sk 3)])), (qs3b, .inl (gI G, (14, .inl (sb 3)))), (qs3e, .inl (gI G, (14, .inl (se 3)))), (qs3f, .inl (gI G, (14, .inl (sf 3)))), (qs4, .inr (1, [.ref qs4b, .ref qs4e, .ref qs4f, .int (sc 4), .int (sp 4), .int (sk 4)])), (qs4b, .inl (gI G, (14, .inl (sb 4)))), (qs4e, .inl (gI G, (14, .inl (se 4)))), (qs4f, .inl (gI G, (14, .inl (sf 4)))), (qs5, .inr (1, [.ref qs5b, .ref qs5e, .ref qs5f, .int (sc 5), .int (sp 5), .int (sk 5)])), (qs5b, .inl (gI G, (14, .inl (sb 5)))), (qs5e, .inl (gI G, (14, .inl (se 5)))), (qs5f, .inl (gI G, (14, .inl (sf 5))))]
set_option maxRecDepth 100000 in
theorem k_X5_move_inX5 : ∀ w ∈ u_ws RX5 TX5 7, w ∈ wsX5_move := by decide +kernel
set_option maxRecDepth 100000 in
theorem k_X5_move_f10 : Cond.fieldLink RX5 10 "RehearsalRoom" "day" "LRehearsalRoom$Day;" ∈ wsX5_move := by decide +kernel
set_option maxRecDepth 100000 in
theorem k_X5_move_f19 : Cond.fieldLink RX5 19 "RehearsalRoom" "saved" "LRehearsalRoom$SavedDays;" ∈ wsX5_move := by decide +kernel
set_option maxRecDepth 100000 in
theorem k_X5_move_inX1 : ∀ w ∈ u_ws RX1 TX1 6, w ∈ wsX5_move := by decide +kernel
set_option maxRecDepth 100000 in
theorem k_X5_move_f104 : Cond.fieldLink RX5 104 "RehearsalRoom$Day" "begins" "[I" ∈ wsX5_move := by decide +kernel
set_option maxRecDepth 100000 in
theorem k_X5_move_f107 : Cond.fieldLink RX5 107 "RehearsalRoom$Day" "ends" "[I" ∈ wsX5_move := by decide +kernel
set_option maxRecDepth 100000 in
theorem k_X5_move_l93 : Cond.classLink RX5 93 "java/lang/IllegalStateException" ∈ wsX5_move := by decide +kernel
set_option maxRecDepth 100000 in
theorem k_X5_move_i93 : Cond.initialized "java/lang/IllegalStateException" ∈ wsX5_move := by decide +kernel
set_option maxRecDepth 100000 in
theorem k_X5_move_a97 : ∀ w ∈ (vx_atS RX5 97 "java/lang/IllegalStateException" gSup).filter goodWord, w ∈ wsX5_move := by decide +kernel
set_option maxHeartbeats 8000000 in
set_option maxRecDepth 100000 in
theorem cx_X5_move (l : Launch) (hst : l.stackTraces = false) (G : mG) (qm : Nat) (qd : Nat) (qs : Nat) (qn : Nat) (qk : Nat) (qt : Nat) (qr : Nat) (qx : Nat) (qdb : Nat) (qde : Nat) (qdf : Nat) (qsa : Nat) (qs0 : Nat) (qs0b : Nat) (qs0e : Nat) (qs0f : Nat) (qs1 : Nat) (qs1b : Nat) (qs1e : Nat) (qs1f : Nat) (qs2 : Nat) (qs2b : Nat) (qs2e : Nat) (qs2f : Nat) (qs3 : Nat) (qs3b : Nat) (qs3e : Nat) (qs3f : Nat) (qs4 : Nat) (qs4b : Nat) (qs4e : Nat) (qs4f : Nat) (qs5 : Nat) (qs5b : Nat) (qs5e : Nat) (qs5f : Nat) (db : Nat → Int32) (de : Nat → Int32) (df : Nat → Int32) (dc : Int32) (dp : Int32) (dk : Int32) (so : Int32) (sn : Int32) (sb : Nat → Nat → Int32) (se : Nat → Nat → Int32) (sf : Nat → Nat → Int32) (sc : Nat → Int32) (sp : Nat → Int32) (sk : Nat → Int32) (a1 : Int32) (a2 : Int32) (a3 : Int32) {Q : Int32 → (Nat → Int32) → (Nat → Int32) → Int32 → Int32 → (Nat → Nat → Int32) → (Nat → Nat → Int32) → (Nat → Nat → Int32) → (Nat → Int32) → (Nat → Int32) → (Nat → Int32) → Prop} {X : String → (Nat → Int32) → (Nat → Int32) → Int32 → Int32 → (Nat → Nat → Int32) → (Nat → Nat → Int32) → (Nat → Nat → Int32) → (Nat → Int32) → (Nat → Int32) → (Nat → Int32) → Prop} (hw : wx_X5_move db de df dc dp dk so sn sb se sf sc sp sk a1 a2 a3 Q X) (sz : Nat) :
    vx_Met l yX5_move wsX5_move ({ frames := 7, cells := 3, slots := 18, locals := 111 } : Room) (va_Pc [.ref qm, .int a1, .int a2, .int a3] (mPre G (w0_X5_move G qm qd qs qn qk qt qr qx qdb qde qdf qsa qs0 qs0b qs0e qs0f qs1 qs1b qs1e qs1f qs2 qs2b qs2e qs2f qs3 qs3b qs3e qs3f qs4 qs4b qs4e qs4f qs5 qs5b qs5e qs5f db de df dc dp dk so sn sb se sf sc sp sk) sz)) (va_Qi (fun (r : Int32) (u : (Nat → Int32) × (Nat → Int32) × Int32 × Int32 × (Nat → Nat → Int32) × (Nat → Nat → Int32) × (Nat → Nat → Int32) × (Nat → Int32) × (Nat → Int32) × (Nat → Int32)) => Q r u.1 u.2.1 u.2.2.1 u.2.2.2.1 u.2.2.2.2.1 u.2.2.2.2.2.1 u.2.2.2.2.2.2.1 u.2.2.2.2.2.2.2.1 u.2.2.2.2.2.2.2.2.1 u.2.2.2.2.2.2.2.2.2) (mBk G (va_A (w0_X5_move G qm qd qs qn qk qt qr qx qdb qde qdf qsa qs0 qs0b qs0e qs0f qs1 qs1b qs1e qs1f qs2 qs2b qs2e qs2f qs3 qs3b qs3e qs3f qs4 qs4b qs4e qs4f qs5 qs5b qs5e qs5f db de df dc dp dk so sn sb se sf sc sp sk) sz) (fun (u : (Nat → Int32) × (Nat → Int32) × Int32 × Int32 × (Nat → Nat → Int32) × (Nat → Nat → Int32) × (Nat → Nat → Int32) × (Nat → Int32) × (Nat → Int32) × (Nat → Int32)) => (w0_X5_move G qm qd qs qn qk qt qr qx qdb qde qdf qsa qs0 qs0b qs0e qs0f qs1 qs1b qs1e qs1f qs2 qs2b qs2e qs2f qs3 qs3b qs3e qs3f qs4 qs4b qs4e qs4f qs5 qs5b qs5e qs5f u.1 u.2.1 df dc dp dk u.2.2.1 u.2.2.2.1 u.2.2.2.2.1 u.2.2.2.2.2.1 u.2.2.2.2.2.2.1 u.2.2.2.2.2.2.2.1 u.2.2.2.2.2.2.2.2.1 u.2.2.2.2.2.2.2.2.2))) (va_A (w0_X5_move G qm qd qs qn qk qt qr qx qdb qde qdf qsa qs0 qs0b qs0e qs0f qs1 qs1b qs1e qs1f qs2 qs2b qs2e qs2f qs3 qs3b qs3e qs3f qs4 qs4b qs4e qs4f qs5 qs5b qs5e qs5f db de df dc dp dk so sn sb se sf sc sp sk) sz)) (vx_X (fun _ => True) (fun E u t => (fun (E : String) (u : (Nat → Int32) × (Nat → Int32) × Int32 × Int32 × (Nat → Nat → Int32) × (Nat → Nat → Int32) × (Nat → Nat → Int32) × (Nat → Int32) × (Nat → Int32) × (Nat → Int32)) => X E u.1 u.2.1 u.2.2.1 u.2.2.2.1 u.2.2.2.2.1 u.2.2.2.2.2.1 u.2.2.2.2.2.2.1 u.2.2.2.2.2.2.2.1 u.2.2.2.2.2.2.2.2.1 u.2.2.2.2.2.2.2.2.2) E u ∧ mBk G (va_A (w0_X5_move G qm qd qs qn qk qt qr qx qdb qde qdf qsa qs0 qs0b qs0e qs0f qs1 qs1b qs1e qs1f qs2 qs2b qs2e qs2f qs3 qs3b qs3e qs3f qs4 qs4b qs4e qs4f qs5 qs5b qs5e qs5f db de df dc dp dk so sn sb se sf sc sp sk) sz) (fun (u : (Nat → Int32) × (Nat → Int32) × Int32 × Int32 × (Nat → Nat → Int32) × (Nat → Nat → Int32) × (Nat → Nat → Int32) × (Nat → Int32) × (Nat → Int32) × (Nat → Int32)) => (w0_X5_move G qm qd qs qn qk qt qr qx qdb qde qdf qsa qs0 qs0b qs0e qs0f qs1 qs1b qs1e qs1f qs2 qs2b qs2e qs2f qs3 qs3b qs3e qs3f qs4 qs4b qs4e qs4f qs5 qs5b qs5e qs5f u.1 u.2.1 df dc dp dk u.2.2.1 u.2.2.2.1 u.2.2.2.2.1 u.2.2.2.2.2.1 u.2.2.2.2.2.2.1 u.2.2.2.2.2.2.2.1 u.2.2.2.2.2.2.2.2.1 u.2.2.2.2.2.2.2.2.2)) u t) (va_A (w0_X5_move G qm qd qs qn qk qt qr qx qdb qde qdf qsa qs0 qs0b qs0e qs0f qs1 qs1b qs1e qs1f qs2 qs2b qs2e qs2f qs3 qs3b qs3e qs3f qs4 qs4b qs4e qs4f qs5 qs5b qs5e qs5f db de df dc dp dk so sn sb se sf sc sp sk) sz)) 3 18 (va_A (w0_X5_move G qm qd qs qn qk qt qr qx qdb qde qdf qsa qs0 qs0b qs0e qs0f qs1 qs1b qs1e qs1f qs2 qs2b qs2e qs2f qs3 qs3b qs3e qs3f qs4 qs4b qs4e qs4f qs5 qs5b qs5e qs5f db de df dc dp dk so sn sb se sf sc sp sk) sz) := by
  refine mx_i (cc := cX5_move) (maxL := 5) (ret := some .int) (post := (fun (r : Int32) (u : (Nat → Int32) × (Nat → Int32) × Int32 × Int32 × (Nat → Nat → Int32) × (Nat → Nat → Int32) × (Nat → Nat → Int32) × (Nat → Int32) × (Nat → Int32) × (Nat → Int32)) => Q r u.1 u.2.1 u.2.2.1 u.2.2.2.1 u.2.2.2.2.1 u.2.2.2.2.2.1 u.2.2.2.2.2.2.1 u.2.2.2.2.2.2.2.1 u.2.2.2.2.2.2.2.2.1 u.2.2.2.2.2.2.2.2.2)) (w1 := (fun (u : (Nat → Int32) × (Nat → Int32) × Int32 × Int32 × (Nat → Nat → Int32) × (Nat → Nat → Int32) × (Nat → Nat → Int32) × (Nat → Int32) × (Nat → Int32) × (Nat → Int32)) => (w0_X5_move G qm qd qs qn qk qt qr qx qdb qde qdf qsa qs0 qs0b qs0e qs0f qs1 qs1b qs1e qs1f qs2 qs2b qs2e qs2f qs3 qs3b qs3e qs3f qs4 qs4b qs4e qs4f qs5 qs5b qs5e qs5f u.1 u.2.1 df dc dp dk u.2.2.1 u.2.2.2.1 u.2.2.2.2.1 u.2.2.2.2.2.1 u.2.2.2.2.2.2.1 u.2.2.2.2.2.2.2.1 u.2.2.2.2.2.2.2.2.1 u.2.2.2.2.2.2.2.2.2))) (px := (fun (E : String) (u : (Nat → Int32) × (Nat → Int32) × Int32 × Int32 × (Nat → Nat → Int32) × (Nat → Nat → Int32) × (Nat → Nat → Int32) × (Nat → Int32) × (Nat → Int32) × (Nat → Int32)) => X E u.1 u.2.1 u.2.2.1 u.2.2.2.1 u.2.2.2.2.1 u.2.2.2.2.2.1 u.2.2.2.2.2.2.1 u.2.2.2.2.2.2.2.1 u.2.2.2.2.2.2.2.2.1 u.2.2.2.2.2.2.2.2.2)) (by decide) rfl (Nat.le_of_ble_eq_true rfl) ?_ sz
  intro p e s m below meth c A ls H locs hx hb hr hml hown hts hlocks hnt hK hG hP hD hS hA hl
  have hown : s.vm.findClass RX5 = some m.cls := hown
  have hl : lv_has ls 5 [(0, .ref qm), (1, .int a1), (2, .int a2), (3, .int a3)] := hl
  have J44 : ∀ (db : Nat → Int32) (de : Nat → Int32) (so : Int32) (sn : Int32) (sb : Nat → Nat → Int32) (se : Nat → Nat → Int32) (sf : Nat → Nat → Int32) (sc : Nat → Int32) (sp : Nat → Int32) (sk : Nat → Int32) (x1 : Int32) (x2 : Int32) (x3 : Int32) (H : Heap) (locs : List Loc) (ls : Array Slot), va_P (gD G) vwCl (w0_X5_move G qm qd qs qn qk qt qr qx qdb qde qdf qsa qs0 qs0b qs0e qs0f qs1 qs1b qs1e qs1f qs2 qs2b qs2e qs2f qs3 qs3b qs3e qs3f qs4 qs4b qs4e qs4f qs5 qs5b qs5e qs5f db de df dc dp dk so sn sb se sf sc sp sk) H → va_D A (w0_X5_move G qm qd qs qn qk qt qr qx qdb qde qdf qsa qs0 qs0b qs0e qs0f qs1 qs1b qs1e qs1f qs2 qs2b qs2e qs2f qs3 qs3b qs3e qs3f qs4 qs4b qs4e qs4f qs5 qs5b qs5e qs5f db de df dc dp dk so sn sb se sf sc sp sk) → va_S A s.heap H locs → lv_has ls 5 [(0, .ref qm), (1, .int x1), (2, .int x2), (3, .int x3)] → wj_x_X5_move_44 df dc dp dk Q X db de so sn sb se sf sc sp sk x1 x2 x3 → W p l e ({ frames := 7, cells := 3, slots := 18, locals := 111 } : Room) s m ([.ref qm, .int a1, .int a2, .int a3] : List Value).toArray below meth c H locs 2 12 (vx_MQ below (va_Qi (fun (r : Int32) (u : (Nat → Int32) × (Nat → Int32) × Int32 × Int32 × (Nat → Nat → Int32) × (Nat → Nat → Int32) × (Nat → Nat → Int32) × (Nat → Int32) × (Nat → Int32) × (Nat → Int32)) => Q r u.1 u.2.1 u.2.2.1 u.2.2.2.1 u.2.2.2.2.1 u.2.2.2.2.2.1 u.2.2.2.2.2.2.1 u.2.2.2.2.2.2.2.1 u.2.2.2.2.2.2.2.2.1 u.2.2.2.2.2.2.2.2.2) (mBk G A (fun (u : (Nat → Int32) × (Nat → Int32) × Int32 × Int32 × (Nat → Nat → Int32) × (Nat → Nat → Int32) × (Nat → Nat → Int32) × (Nat → Int32) × (Nat → Int32) × (Nat → Int32)) => (w0_X5_move G qm qd qs qn qk qt qr qx qdb qde qdf qsa qs0 qs0b qs0e qs0f qs1 qs1b qs1e qs1f qs2 qs2b qs2e qs2f qs3 qs3b qs3e qs3f qs4 qs4b qs4e qs4f qs5 qs5b qs5e qs5f u.1 u.2.1 df dc dp dk u.2.2.1 u.2.2.2.1 u.2.2.2.2.1 u.2.2.2.2.2.1 u.2.2.2.2.2.2.1 u.2.2.2.2.2.2.2.1 u.2.2.2.2.2.2.2.2.1 u.2.2.2.2.2.2.2.2.2))) A) (vx_X (fun _ => True) (fun E u t => (fun (E : String) (u : (Nat → Int32) × (Nat → Int32) × Int32 × Int32 × (Nat → Nat → Int32) × (Nat → Nat → Int32) × (Nat → Nat → Int32) × (Nat → Int32) × (Nat → Int32) × (Nat → Int32)) => X E u.1 u.2.1 u.2.2.1 u.2.2.2.1 u.2.2.2.2.1 u.2.2.2.2.2.1 u.2.2.2.2.2.2.1 u.2.2.2.2.2.2.2.1 u.2.2.2.2.2.2.2.2.1 u.2.2.2.2.2.2.2.2.2) E u ∧ mBk G A (fun (u : (Nat → Int32) × (Nat → Int32) × Int32 × Int32 × (Nat → Nat → Int32) × (Nat → Nat → Int32) × (Nat → Nat → Int32) × (Nat → Int32) × (Nat → Int32) × (Nat → Int32)) => (w0_X5_move G qm qd qs qn qk qt qr qx qdb qde qdf qsa qs0 qs0b qs0e qs0f qs1 qs1b qs1e qs1f qs2 qs2b qs2e qs2f qs3 qs3b qs3e qs3f qs4 qs4b qs4e qs4f qs5 qs5b qs5e qs5f u.1 u.2.1 df dc dp dk u.2.2.1 u.2.2.2.1 u.2.2.2.2.1 u.2.2.2.2.2.1 u.2.2.2.2.2.2.1 u.2.2.2.2.2.2.2.1 u.2.2.2.2.2.2.2.2.1 u.2.2.2.2.2.2.2.2.2)) u t) A) ([.ref qm, .int a1, .int a2, .int a3] : List Value).toArray s 3 18 A) (F0 m 44 ls []) := by
    intro db de so sn sb se sf sc sp sk x1 x2 x3 H locs ls hP hD hS hl hw
    unfold wj_x_X5_move_44 at hw
    refine lv_aload_n hx hb dX5_move_44 rfl (lv_at hl 0 rfl) ?_
    refine va_get (D := gD G) (ci := 5) (v := .ref qd) (C := RX5) (T := TX5) (N := 7) hx hb hts k_X5_move_inX5 hown hK hP 0 rfl rfl 0 (by decide) (hts _ k_X5_move_f10) (fun _ h9 => h9) rfl dX5_move_45 ?_
    refine lv_iload_n hx hb dX5_move_48 rfl (lv_at hl 1 rfl) ?_
    refine kcR_i (kr_V [] ⟨hx, hb, hml, hown, hts⟩ (cn_X1_quartersOf l G qd qdb qde qdf db de df dc dp dk x1 hw H.size) (cwV 1 hts gX5_move_X1_quartersOf rfl rfl rfl (by decide +kernel) ⟨Nat.le_of_ble_eq_true rfl, Nat.le_of_ble_eq_true rfl⟩) hK hG hP hD hS hA [1, 2, 3, 4] rfl rfl 1 1 rfl rfl rfl hl.1 rfl (Nat.le_of_ble_eq_true rfl) dX5_move_49 ⟨Nat.le_of_ble_eq_true rfl, Nat.le_of_ble_eq_true rfl⟩) hP hD hS hA [1, 2, 3, 4] rfl (fun r3 u H locs hw hP hS => ?_)
    try dsimp only at hw
    refine lv_istore (lv' := [(4, .int r3), (0, .ref qm), (1, .int x1), (2, .int x2), (3, .int x3)]) hx hb dX5_move_52 hl (by decide) rfl (fun ls hl => ?_)
    refine lv_aload_n hx hb dX5_move_54 rfl (lv_at hl 1 rfl) ?_
    refine va_get (D := gD G) (ci := 5) (v := .ref qs) (C := RX5) (T := TX5) (N := 7) hx hb hts k_X5_move_inX5 hown hK hP 0 rfl rfl 1 (by decide) (hts _ k_X5_move_f19) (fun _ h9 => h9) rfl dX5_move_55 ?_
    refine lv_aload_n hx hb dX5_move_58 rfl (lv_at hl 1 rfl) ?_
    refine va_get (D := gD G) (ci := 5) (v := .ref qd) (C := RX5) (T := TX5) (N := 7) hx hb hts k_X5_move_inX5 hown hK hP 0 rfl rfl 0 (by decide) (hts _ k_X5_move_f10) (fun _ h9 => h9) rfl dX5_move_59 ?_
    refine kc_v (kr_V [] ⟨hx, hb, hml, hown, hts⟩ (cn_X3_save l G qs qsa qs0 qs0b qs0e qs0f qs1 qs1b qs1e qs1f qs2 qs2b qs2e qs2f qs3 qs3b qs3e qs3f qs4 qs4b qs4e qs4f qs5 qs5b qs5e qs5f qd qdb qde qdf so sn sb se sf sc sp sk db de df dc dp dk hw H.size) (cwV 1 hts gX5_move_X3_save rfl rfl rfl (by decide +kernel) ⟨Nat.le_of_ble_eq_true rfl, Nat.le_of_ble_eq_true rfl⟩) hK hG hP hD hS hA [5, 6, 7, 8, 9, 10, 11, 12, 13, 14, 15, 16, 17, 18, 19, 20, 21, 22, 23, 24, 25, 26, 27, 28, 29, 30, 1, 2, 3, 4] rfl rfl 3 5 rfl rfl rfl hl.1 rfl (Nat.le_of_ble_eq_true rfl) dX5_move_62 ⟨Nat.le_of_ble_eq_true rfl, Nat.le_of_ble_eq_true rfl⟩) hP hD hS hA [5, 6, 7, 8, 9, 10, 11, 12, 13, 14, 15, 16, 17, 18, 19, 20, 21, 22, 23, 24, 25, 26, 27, 28, 29, 30, 1, 2, 3, 4] [0] rfl rfl rfl (by decide) (fun u H locs hw hP hD hS => ?_)
    obtain ⟨so_4, sn_5, sb_6, se_7, sf_8, sc_9, sp_10, sk_11⟩ := u
    try dsimp only at hw
    have hP := hP.sub (ws' := (w0_X5_move G qm qd qs qn qk qt qr qx qdb qde qdf qsa qs0 qs0b qs0e qs0f qs1 qs1b qs1e qs1f qs2 qs2b qs2e qs2f qs3 qs3b qs3e qs3f qs4 qs4b qs4e qs4f qs5 qs5b qs5e qs5f db de df dc dp dk so_4 sn_5 sb_6 se_7 sf_8 sc_9 sp_10 sk_11)) [0, 27, 28, 29, 30, 1, 2, 3, 4, 5, 6, 7, 8, 9, 10, 11, 12, 13, 14, 15, 16, 17, 18, 19, 20, 21, 22, 23, 24, 25, 26] rfl
    have hD := hD.sub (ws' := (w0_X5_move G qm qd qs qn qk qt qr qx qdb qde qdf qsa qs0 qs0b qs0e qs0f qs1 qs1b qs1e qs1f qs2 qs2b qs2e qs2f qs3 qs3b qs3e qs3f qs4 qs4b qs4e qs4f qs5 qs5b qs5e qs5f db de df dc dp dk so_4 sn_5 sb_6 se_7 sf_8 sc_9 sp_10 sk_11)) [0, 27, 28, 29, 30, 1, 2, 3, 4, 5, 6, 7, 8, 9, 10, 11, 12, 13, 14, 15, 16, 17, 18, 19, 20, 21, 22, 23, 24, 25, 26] rfl rfl
    refine lv_aload_n hx hb dX5_move_65 rfl (lv_at hl 1 rfl) ?_
    refine va_get (D := gD G) (ci := 5) (v := .ref qd) (C := RX5) (T := TX5) (N := 7) hx hb hts k_X5_move_inX5 hown hK hP 0 rfl rfl 0 (by decide) (hts _ k_X5_move_f10) (fun _ h9 => h9) rfl dX5_move_66 ?_
    refine va_get (D := gD G) (ci := 1) (v := .ref qdb) (C := RX1) (T := TX1) (N := 6) hx hb hts k_X5_move_inX1 hown hK hP 1 rfl rfl 0 (by decide) (hts _ k_X5_move_f104) (fun _ h9 => h9) rfl dX5_move_69 ?_
    refine lv_iload_n hx hb dX5_move_72 rfl (lv_at hl 2 rfl) ?_
    refine lv_iload_n hx hb dX5_move_73 rfl (lv_at hl 3 rfl) ?_
    obtain ⟨h12, hw⟩ := hw
    refine va_iast hx hb hK hP hD hS 2 0 rfl rfl h12 dX5_move_74 (fun H locs hP hD hS => ?_)
    have hP : va_P (gD G) vwCl (w0_X5_move G qm qd qs qn qk qt qr qx qdb qde qdf qsa qs0 qs0b qs0e qs0f qs1 qs1b qs1e qs1f qs2 qs2b qs2e qs2f qs3 qs3b qs3e qs3f qs4 qs4b qs4e qs4f qs5 qs5b qs5e qs5f (upd db x1.toNatClampNeg x2) de df dc dp dk so_4 sn_5 sb_6 se_7 sf_8 sc_9 sp_10 sk_11) H := hP
    have hD : va_D A (w0_X5_move G qm qd qs qn qk qt qr qx qdb qde qdf qsa qs0 qs0b qs0e qs0f qs1 qs1b qs1e qs1f qs2 qs2b qs2e qs2f qs3 qs3b qs3e qs3f qs4 qs4b qs4e qs4f qs5 qs5b qs5e qs5f (upd db x1.toNatClampNeg x2) de df dc dp dk so_4 sn_5 sb_6 se_7 sf_8 sc_9 sp_10 sk_11) := hD
    refine lv_aload_n hx hb dX5_move_75 rfl (lv_at hl 1 rfl) ?_
    refine va_get (D := gD G) (ci := 5) (v := .ref qd) (C := RX5) (T := TX5) (N := 7) hx hb hts k_X5_move_inX5 hown hK hP 0 rfl rfl 0 (by decide) (hts _ k_X5_move_f10) (fun _ h9 => h9) rfl dX5_move_76 ?_
    refine va_get (D := gD G) (ci := 1) (v := .ref qde) (C := RX1) (T := TX1) (N := 6) hx hb hts k_X5_move_inX1 hown hK hP 1 rfl rfl 1 (by decide) (hts _ k_X5_move_f107) (fun _ h9 => h9) rfl dX5_move_79 ?_
    refine lv_iload_n hx hb dX5_move_82 rfl (lv_at hl 2 rfl) ?_
    refine lv_iload_n hx hb dX5_move_83 rfl (lv_at hl 4 rfl) ?_
    obtain ⟨h13, hw⟩ := hw
    refine va_iast hx hb hK hP hD hS 3 0 rfl rfl h13 dX5_move_84 (fun H locs hP hD hS => ?_)
    have hP : va_P (gD G) vwCl (w0_X5_move G qm qd qs qn qk qt qr qx qdb qde qdf qsa qs0 qs0b qs0e qs0f qs1 qs1b qs1e qs1f qs2 qs2b qs2e qs2f qs3 qs3b qs3e qs3f qs4 qs4b qs4e qs4f qs5 qs5b qs5e qs5f (upd db x1.toNatClampNeg x2) (upd de x1.toNatClampNeg x3) df dc dp dk so_4 sn_5 sb_6 se_7 sf_8 sc_9 sp_10 sk_11) H := hP
    have hD : va_D A (w0_X5_move G qm qd qs qn qk qt qr qx qdb qde qdf qsa qs0 qs0b qs0e qs0f qs1 qs1b qs1e qs1f qs2 qs2b qs2e qs2f qs3 qs3b qs3e qs3f qs4 qs4b qs4e qs4f qs5 qs5b qs5e qs5f (upd db x1.toNatClampNeg x2) (upd de x1.toNatClampNeg x3) df dc dp dk so_4 sn_5 sb_6 se_7 sf_8 sc_9 sp_10 sk_11) := hD
    refine lv_aload_n hx hb dX5_move_85 rfl (lv_at hl 1 rfl) ?_
    refine va_get (D := gD G) (ci := 5) (v := .ref qd) (C := RX5) (T := TX5) (N := 7) hx hb hts k_X5_move_inX5 hown hK hP 0 rfl rfl 0 (by decide) (hts _ k_X5_move_f10) (fun _ h9 => h9) rfl dX5_move_86 ?_
    refine lv_iload_n hx hb dX5_move_89 rfl (lv_at hl 2 rfl) ?_
    refine kcR_i (kr_V [] ⟨hx, hb, hml, hown, hts⟩ (cn_X1_quartersOf l G qd qdb qde qdf (upd db x1.toNatClampNeg x2) (upd de x1.toNatClampNeg x3) df dc dp dk x1 hw H.size) (cwV 1 hts gX5_move_X1_quartersOf rfl rfl rfl (by decide +kernel) ⟨Nat.le_of_ble_eq_true rfl, Nat.le_of_ble_eq_true rfl⟩) hK hG hP hD hS hA [1, 2, 3, 4] rfl rfl 1 1 rfl rfl rfl hl.1 rfl (Nat.le_of_ble_eq_true rfl) dX5_move_90 ⟨Nat.le_of_ble_eq_true rfl, Nat.le_of_ble_eq_true rfl⟩) hP hD hS hA [1, 2, 3, 4] rfl (fun r14 u H locs hw hP hS => ?_)
    try dsimp only at hw
    refine lv_iload hx hb dX5_move_93 (lv_at hl 0 rfl) ?_
    refine lv_isub hx hb dX5_move_95 ?_
    exact fin_x (Nat.le_of_ble_eq_true rfl) (Nat.le_of_ble_eq_true rfl) (fin_i ((upd db x1.toNatClampNeg x2), (upd de x1.toNatClampNeg x3), so_4, sn_5, sb_6, se_7, sf_8, sc_9, sp_10, sk_11) hx hb hr hlocks hK hS hP hD hw dX5_move_96)
  unfold wx_X5_move at hw
  refine lv_aload_n hx hb dX5_move_0 rfl (lv_at hl 0 rfl) ?_
  refine lv_iload_n hx hb dX5_move_1 rfl (lv_at hl 1 rfl) ?_
  refine kxR_v (xr_V [] ⟨hx, hb, hml, hown, hts⟩ (cx_X5_requireRehearsal l hst G qm qd qs qn qk qt qr qx qdb qde qdf db de df dc dp dk a1 hw H.size) (cwV 1 hts gX5_move_X5_requireRehearsal rfl rfl rfl (by decide +kernel) ⟨Nat.le_of_ble_eq_true rfl, Nat.le_of_ble_eq_true rfl⟩) hK hG hP hD hS hA [0, 1, 2, 3, 4] rfl rfl 5 0 rfl rfl rfl hl.1 rfl (Nat.le_of_ble_eq_true rfl) dX5_move_2 ⟨Nat.le_of_ble_eq_true rfl, Nat.le_of_ble_eq_true rfl⟩) hP hD hS hA [0, 1, 2, 3, 4] rfl (fun E u ce q9 H locs hw hP hS h1 h2 h3 => kx_out (db, de, so, sn, sb, se, sf, sc, sp, sk) hnt hlocks h1 h2 h3 hK hS hP hD hw (Nat.le_of_ble_eq_true rfl) (Nat.le_of_ble_eq_true rfl)) (fun u H locs hw hP hS => ?_)
  try dsimp only at hw
  refine lv_iload_n hx hb dX5_move_5 rfl (lv_at hl 2 rfl) ?_
  refine lv_iload_n hx hb dX5_move_6 rfl (lv_at hl 3 rfl) ?_
  refine kxR_v (xr_S [] ⟨hx, hb, hml, hown, hts⟩ (cx_X5_requireTimes l hst G a2 a3 hw H.size) (va_cwS 2 hts gX5_move_X5_requireTimes rfl rfl rfl (by decide +kernel) ⟨Nat.le_of_ble_eq_true rfl, Nat.le_of_ble_eq_true rfl⟩) hK hG hP hD hS hA [] rfl rfl rfl hl.1 rfl (Nat.le_of_ble_eq_true rfl) dX5_move_7 ⟨Nat.le_of_ble_eq_true rfl, Nat.le_of_ble_eq_true rfl⟩) hP hD hS hA [] rfl (fun E u ce q9 H locs hw hP hS h1 h2 h3 => kx_out (db, de, so, sn, sb, se, sf, sc, sp, sk) hnt hlocks h1 h2 h3 hK hS hP hD hw (Nat.le_of_ble_eq_true rfl) (Nat.le_of_ble_eq_true rfl)) (fun u H locs hw hP hS => ?_)
  try dsimp only at hw
  refine lv_aload_n hx hb dX5_move_10 rfl (lv_at hl 0 rfl) ?_
  refine va_get (D := gD G) (ci := 5) (v := .ref qd) (C := RX5) (T := TX5) (N := 7) hx hb hts k_X5_move_inX5 hown hK hP 0 rfl rfl 0 (by decide) (hts _ k_X5_move_f10) (fun _ h9 => h9) rfl dX5_move_11 ?_
  refine lv_iload_n hx hb dX5_move_14 rfl (lv_at hl 1 rfl) ?_
  refine kcR_i (kr_V [] ⟨hx, hb, hml, hown, hts⟩ (cn_X1_hasBooked l G qd qdb qde qdf db de df dc dp dk a1 hw H.size) (cwV 1 hts gX5_move_X1_hasBooked rfl rfl rfl (by decide +kernel) ⟨Nat.le_of_ble_eq_true rfl, Nat.le_of_ble_eq_true rfl⟩) hK hG hP hD hS hA [1, 2, 3, 4] rfl rfl 1 1 rfl rfl rfl hl.1 rfl (Nat.le_of_ble_eq_true rfl) dX5_move_15 ⟨Nat.le_of_ble_eq_true rfl, Nat.le_of_ble_eq_true rfl⟩) hP hD hS hA [1, 2, 3, 4] rfl (fun r1 u H locs hw hP hS => ?_)
  try dsimp only at hw
  obtain ⟨hz_r1, hw⟩ := hw
  refine lv_if_eq (tgt := 44) hx hb dX5_move_18 (by decide) (fun cd2 => ?_) (fun cd2 => ?_)
  · have hw := hw.1 cd2
    exact J44 db de so sn sb se sf sc sp sk a1 a2 a3 _ _ _ hP hD hS hl hw
  · have hw := hw.2 cd2
    refine lv_aload_n hx hb dX5_move_21 rfl (lv_at hl 0 rfl) ?_
    refine va_get (D := gD G) (ci := 5) (v := .ref qd) (C := RX5) (T := TX5) (N := 7) hx hb hts k_X5_move_inX5 hown hK hP 0 rfl rfl 0 (by decide) (hts _ k_X5_move_f10) (fun _ h9 => h9) rfl dX5_move_22 ?_
    refine lv_iload_n hx hb dX5_move_25 rfl (lv_at hl 1 rfl) ?_
    refine lv_iload_n hx hb dX5_move_26 rfl (lv_at hl 2 rfl) ?_
    refine lv_iload_n hx hb dX5_move_27 rfl (lv_at hl 3 rfl) ?_
    refine kcR_i (kr_V [] ⟨hx, hb, hml, hown, hts⟩ (cn_X1_bookingsAllow l G qd qdb qde qdf db de df dc dp dk a1 a2 a3 hw H.size) (cwV 3 hts gX5_move_X1_bookingsAllow rfl rfl rfl (by decide +kernel) ⟨Nat.le_of_ble_eq_true rfl, Nat.le_of_ble_eq_true rfl⟩) hK hG hP hD hS hA [1, 2, 3, 4] rfl rfl 1 1 rfl rfl rfl hl.1 rfl (Nat.le_of_ble_eq_true rfl) dX5_move_28 ⟨Nat.le_of_ble_eq_true rfl, Nat.le_of_ble_eq_true rfl⟩) hP hD hS hA [1, 2, 3, 4] rfl (fun r15 u H locs hw hP hS => ?_)
    try dsimp only at hw
    obtain ⟨hz_r15, hw⟩ := hw
    refine lv_if_ne (tgt := 44) hx hb dX5_move_31 (by decide) (fun cd16 => ?_) (fun cd16 => ?_)
    · have hw := hw.1 cd16
      exact J44 db de so sn sb se sf sc sp sk a1 a2 a3 _ _ _ hP hD hS hl hw
    · have hw := hw.2 cd16
      exact kth (nL := 5) "in conflict with a booked rehearsal" (db, de, so, sn, sb, se, sf, sc, sp, sk) hx hb hst hown hts hG hnt hlocks hml hl.1 hK hS hP hD hw ⟨by decide +kernel, by decide +kernel⟩ (by decide +kernel) k_X5_move_l93 k_X5_move_i93 k_X5_move_a97 tnb_97 tgd_97 dX5_move_34 dX5_move_37 dX5_move_43 ⟨dX5_move_38, dX5_move_40⟩ ⟨by decide, by decide, by decide, by decide⟩ (Nat.le_of_ble_eq_true rfl) (Nat.le_of_ble_eq_true rfl)

abbrev w0_X5_changeFame (G : mG) (qm : Nat) (qd : Nat) (qs : Nat) (qn : Nat) (qk : Nat) (qt : Nat) (qr : Nat) (qx : Nat) (qdb : Nat) (qde : Nat) (qdf : Nat) (qsa : Nat) (qs0 : Nat) (qs0b : Nat) (qs0e : Nat) (qs0f : Nat) (qs1 : Nat) (qs1b : Nat) (qs1e : Nat) (qs1f : Nat) (qs2 : Nat) (qs2b : Nat) (qs2e : Nat) (qs2f : Nat) (qs3 : Nat) (qs3b : Nat) (qs3e : Nat) (qs3f : Nat) (qs4 : Nat) (qs4b : Nat) (qs4e : Nat) (qs4f : Nat) (qs5 : Nat) (qs5b : Nat) (qs5e : Nat) (qs5f : Nat) (db : Nat → Int32) (de : Nat → Int32) (df : Nat → Int32) (dc : Int32) (dp : Int32) (dk : Int32) (so : Int32) (sn : Int32) (sb : Nat → Nat → Int32) (se : Nat → Nat → Int32) (sf : Nat → Nat → Int32) (sc : Nat → Int32) (sp : Nat → Int32) (sk : Nat → Int32) : va_W := [(qm, .inr (5, [.ref qd, .ref qs, .ref qn, .ref qk, .ref qt, .ref qr, .ref qx])), (qd, .inr (1, [.ref qdb, .ref qde, .ref qdf, .int dc, .int dp, .int dk])), (qdb, .inl (gI G, (14, .inl db))), (qde, .inl (gI G, (14, .inl de))), (qdf, .inl (gI G, (14, .inl df))), (qs, .inr (3, [.ref qsa, .int so, .int sn])), (qsa, .inl (gQ G, (6, .inr (.inr (.inr (.inr (g6 qs0 qs1 qs2 qs3 qs4 qs5))))))), (qs0, .inr (1, [.ref qs0b, .ref qs0e, .ref qs0f, .int (sc 0), .int (sp 0), .int (sk 0)])), (qs0b, .inl (gI G, (14, .inl (sb 0)))), (qs0e, .inl (gI G, (14, .inl (se 0)))), (qs0f, .inl (gI G, (14, .inl (sf 0)))), (qs1, .inr (1, [.ref qs1b, .ref qs1e, .ref qs1f, .int (sc 1), .int (sp 1), .int (sk 1)])), (qs1b, .inl (gI G, (14, .inl (sb 1)))), (qs1e, .inl (gI G, (14, .inl (se 1)))), (qs1f, .inl (gI G, (14, .inl (sf 1)))), (qs2, .inr (1, [.ref qs2b, .ref qs2e, .ref qs2f, .int (sc 2), .int (sp 2), .int (sk 2)])), (qs2b, .inl (gI G, (14, .inl (sb 2)))), (qs2e, .inl (gI G, (14, .inl (se 2)))), (qs2f, .inl (gI G, (14, .inl (sf 2)))), (qs3, .inr (1, [.ref qs3b, .ref qs3e, .ref qs3f, .int (sc 3), .int (sp 3), .int (sk 3)])), (qs3b, .inl (gI G, (14, .inl (sb 3)))), (qs3e, .inl (gI G, (14, .inl (se 3)))), (qs3f, .inl (gI G, (14, .inl (sf 3)))), (qs4, .inr (1, [.ref qs4b, .ref qs4e, .ref qs4f, .int (sc 4), .int (sp 4), .int (sk 4)])), (qs4b, .inl (gI G, (14, .inl (sb 4)))), (qs4e, .inl (gI G, (14, .inl (se 4)))), (qs4f, .inl (gI G, (14, .inl (sf 4)))), (qs5, .inr (1, [.ref qs5b, .ref qs5e, .ref qs5f, .int (sc 5), .int (sp 5), .int (sk 5)])), (qs5b, .inl (gI G, (14, .inl (sb 5)))), (qs5e, .inl (gI G, (14, .inl (se 5)))), (qs5f, .inl (gI G, (14, .inl (sf 5))))]
set_option maxRecDepth 100000 in
theorem k_X5_changeFame_inX5 : ∀ w ∈ u_ws RX5 TX5 7, w ∈ wsX5_changeFame := by decide +kernel
set_option maxRecDepth 100000 in
theorem k_X5_changeFame_f10 : Cond.fieldLink RX5 10 "RehearsalRoom" "day" "LRehearsalRoom$Day;" ∈ wsX5_changeFame := by decide +kernel
set_option maxRecDepth 100000 in
theorem k_X5_changeFame_inX1 : ∀ w ∈ u_ws RX1 TX1 6, w ∈ wsX5_changeFame := by decide +kernel
set_option maxRecDepth 100000 in
theorem k_X5_changeFame_f78 : Cond.fieldLink RX5 78 "RehearsalRoom$Day" "fames" "[I" ∈ wsX5_changeFame := by decide +kernel
set_option maxRecDepth 100000 in
theorem k_X5_changeFame_f19 : Cond.fieldLink RX5 19 "RehearsalRoom" "saved" "LRehearsalRoom$SavedDays;" ∈ wsX5_changeFame := by decide +kernel
set_option maxHeartbeats 8000000 in
set_option maxRecDepth 100000 in
theorem cx_X5_changeFame (l : Launch) (hst : l.stackTraces = false) (G : mG) (qm : Nat) (qd : Nat) (qs : Nat) (qn : Nat) (qk : Nat) (qt : Nat) (qr : Nat) (qx : Nat) (qdb : Nat) (qde : Nat) (qdf : Nat) (qsa : Nat) (qs0 : Nat) (qs0b : Nat) (qs0e : Nat) (qs0f : Nat) (qs1 : Nat) (qs1b : Nat) (qs1e : Nat) (qs1f : Nat) (qs2 : Nat) (qs2b : Nat) (qs2e : Nat) (qs2f : Nat) (qs3 : Nat) (qs3b : Nat) (qs3e : Nat) (qs3f : Nat) (qs4 : Nat) (qs4b : Nat) (qs4e : Nat) (qs4f : Nat) (qs5 : Nat) (qs5b : Nat) (qs5e : Nat) (qs5f : Nat) (db : Nat → Int32) (de : Nat → Int32) (df : Nat → Int32) (dc : Int32) (dp : Int32) (dk : Int32) (so : Int32) (sn : Int32) (sb : Nat → Nat → Int32) (se : Nat → Nat → Int32) (sf : Nat → Nat → Int32) (sc : Nat → Int32) (sp : Nat → Int32) (sk : Nat → Int32) (a1 : Int32) (a2 : Int32) {Q : Int32 → (Nat → Int32) → Int32 → Int32 → (Nat → Nat → Int32) → (Nat → Nat → Int32) → (Nat → Nat → Int32) → (Nat → Int32) → (Nat → Int32) → (Nat → Int32) → Prop} {X : String → (Nat → Int32) → Int32 → Int32 → (Nat → Nat → Int32) → (Nat → Nat → Int32) → (Nat → Nat → Int32) → (Nat → Int32) → (Nat → Int32) → (Nat → Int32) → Prop} (hw : wx_X5_changeFame db de df dc dp dk so sn sb se sf sc sp sk a1 a2 Q X) (sz : Nat) :
    vx_Met l yX5_changeFame wsX5_changeFame ({ frames := 7, cells := 2, slots := 12, locals := 111 } : Room) (va_Pc [.ref qm, .int a1, .int a2] (mPre G (w0_X5_changeFame G qm qd qs qn qk qt qr qx qdb qde qdf qsa qs0 qs0b qs0e qs0f qs1 qs1b qs1e qs1f qs2 qs2b qs2e qs2f qs3 qs3b qs3e qs3f qs4 qs4b qs4e qs4f qs5 qs5b qs5e qs5f db de df dc dp dk so sn sb se sf sc sp sk) sz)) (va_Qi (fun (r : Int32) (u : (Nat → Int32) × Int32 × Int32 × (Nat → Nat → Int32) × (Nat → Nat → Int32) × (Nat → Nat → Int32) × (Nat → Int32) × (Nat → Int32) × (Nat → Int32)) => Q r u.1 u.2.1 u.2.2.1 u.2.2.2.1 u.2.2.2.2.1 u.2.2.2.2.2.1 u.2.2.2.2.2.2.1 u.2.2.2.2.2.2.2.1 u.2.2.2.2.2.2.2.2) (mBk G (va_A (w0_X5_changeFame G qm qd qs qn qk qt qr qx qdb qde qdf qsa qs0 qs0b qs0e qs0f qs1 qs1b qs1e qs1f qs2 qs2b qs2e qs2f qs3 qs3b qs3e qs3f qs4 qs4b qs4e qs4f qs5 qs5b qs5e qs5f db de df dc dp dk so sn sb se sf sc sp sk) sz) (fun (u : (Nat → Int32) × Int32 × Int32 × (Nat → Nat → Int32) × (Nat → Nat → Int32) × (Nat → Nat → Int32) × (Nat → Int32) × (Nat → Int32) × (Nat → Int32)) => (w0_X5_changeFame G qm qd qs qn qk qt qr qx qdb qde qdf qsa qs0 qs0b qs0e qs0f qs1 qs1b qs1e qs1f qs2 qs2b qs2e qs2f qs3 qs3b qs3e qs3f qs4 qs4b qs4e qs4f qs5 qs5b qs5e qs5f db de u.1 dc dp dk u.2.1 u.2.2.1 u.2.2.2.1 u.2.2.2.2.1 u.2.2.2.2.2.1 u.2.2.2.2.2.2.1 u.2.2.2.2.2.2.2.1 u.2.2.2.2.2.2.2.2))) (va_A (w0_X5_changeFame G qm qd qs qn qk qt qr qx qdb qde qdf qsa qs0 qs0b qs0e qs0f qs1 qs1b qs1e qs1f qs2 qs2b qs2e qs2f qs3 qs3b qs3e qs3f qs4 qs4b qs4e qs4f qs5 qs5b qs5e qs5f db de df dc dp dk so sn sb se sf sc sp sk) sz)) (vx_X (fun _ => True) (fun E u t => (fun (E : String) (u : (Nat → Int32) × Int32 × Int32 × (Nat → Nat → Int32) × (Nat → Nat → Int32) × (Nat → Nat → Int32) × (Nat → Int32) × (Nat → Int32) × (Nat → Int32)) => X E u.1 u.2.1 u.2.2.1 u.2.2.2.1 u.2.2.2.2.1 u.2.2.2.2.2.1 u.2.2.2.2.2.2.1 u.2.2.2.2.2.2.2.1 u.2.2.2.2.2.2.2.2) E u ∧ mBk G (va_A (w0_X5_changeFame G qm qd qs qn qk qt qr qx qdb qde qdf qsa qs0 qs0b qs0e qs0f qs1 qs1b qs1e qs1f qs2 qs2b qs2e qs2f qs3 qs3b qs3e qs3f qs4 qs4b qs4e qs4f qs5 qs5b qs5e qs5f db de df dc dp dk so sn sb se sf sc sp sk) sz) (fun (u : (Nat → Int32) × Int32 × Int32 × (Nat → Nat → Int32) × (Nat → Nat → Int32) × (Nat → Nat → Int32) × (Nat → Int32) × (Nat → Int32) × (Nat → Int32)) => (w0_X5_changeFame G qm qd qs qn qk qt qr qx qdb qde qdf qsa qs0 qs0b qs0e qs0f qs1 qs1b qs1e qs1f qs2 qs2b qs2e qs2f qs3 qs3b qs3e qs3f qs4 qs4b qs4e qs4f qs5 qs5b qs5e qs5f db de u.1 dc dp dk u.2.1 u.2.2.1 u.2.2.2.1 u.2.2.2.2.1 u.2.2.2.2.2.1 u.2.2.2.2.2.2.1 u.2.2.2.2.2.2.2.1 u.2.2.2.2.2.2.2.2)) u t) (va_A (w0_X5_changeFame G qm qd qs qn qk qt qr qx qdb qde qdf qsa qs0 qs0b qs0e qs0f qs1 qs1b qs1e qs1f qs2 qs2b qs2e qs2f qs3 qs3b qs3e qs3f qs4 qs4b qs4e qs4f qs5 qs5b qs5e qs5f db de df dc dp dk so sn sb se sf sc sp sk) sz)) 2 12 (va_A (w0_X5_changeFame G qm qd qs qn qk qt qr qx qdb qde qdf qsa qs0 qs0b qs0e qs0f qs1 qs1b qs1e qs1f qs2 qs2b qs2e qs2f qs3 qs3b qs3e qs3f qs4 qs4b qs4e qs4f qs5 qs5b qs5e qs5f db de df dc dp dk so sn sb se sf sc sp sk) sz) := by
  refine mx_i (cc := cX5_changeFame) (maxL := 4) (ret := some .int) (post := (fun (r : Int32) (u : (Nat → Int32) × Int32 × Int32 × (Nat → Nat → Int32) × (Nat → Nat → Int32) × (Nat → Nat → Int32) × (Nat → Int32) × (Nat → Int32) × (Nat → Int32)) => Q r u.1 u.2.1 u.2.2.1 u.2.2.2.1 u.2.2.2.2.1 u.2.2.2.2.2.1 u.2.2.2.2.2.2.1 u.2.2.2.2.2.2.2.1 u.2.2.2.2.2.2.2.2)) (w1 := (fun (u : (Nat → Int32) × Int32 × Int32 × (Nat → Nat → Int32) × (Nat → Nat → Int32) × (Nat → Nat → Int32) × (Nat → Int32) × (Nat → Int32) × (Nat → Int32)) => (w0_X5_changeFame G qm qd qs qn qk qt qr qx qdb qde qdf qsa qs0 qs0b qs0e qs0f qs1 qs1b qs1e qs1f qs2 qs2b qs2e qs2f qs3 qs3b qs3e qs3f qs4 qs4b qs4e qs4f qs5 qs5b qs5e qs5f db de u.1 dc dp dk u.2.1 u.2.2.1 u.2.2.2.1 u.2.2.2.2.1 u.2.2.2.2.2.1 u.2.2.2.2.2.2.1 u.2.2.2.2.2.2.2.1 u.2.2.2.2.2.2.2.2))) (px := (fun (E : String) (u : (Nat → Int32) × Int32 × Int32 × (Nat → Nat → Int32) × (Nat → Nat → Int32) × (Nat → Nat → Int32) × (Nat → Int32) × (Nat → Int32) × (Nat → Int32)) => X E u.1 u.2.1 u.2.2.1 u.2.2.2.1 u.2.2.2.2.1 u.2.2.2.2.2.1 u.2.2.2.2.2.2.1 u.2.2.2.2.2.2.2.1 u.2.2.2.2.2.2.2.2)) (by decide) rfl (Nat.le_of_ble_eq_true rfl) ?_ sz
  intro p e s m below meth c A ls H locs hx hb hr hml hown hts hlocks hnt hK hG hP hD hS hA hl
  have hown : s.vm.findClass RX5 = some m.cls := hown
  have hl : lv_has ls 4 [(0, .ref qm), (1, .int a1), (2, .int a2)] := hl
  unfold wx_X5_changeFame at hw
  refine lv_aload_n hx hb dX5_changeFame_0 rfl (lv_at hl 0 rfl) ?_
  refine lv_iload_n hx hb dX5_changeFame_1 rfl (lv_at hl 1 rfl) ?_
  refine kxR_v (xr_V [] ⟨hx, hb, hml, hown, hts⟩ (cx_X5_requireRehearsal l hst G qm qd qs qn qk qt qr qx qdb qde qdf db de df dc dp dk a1 hw H.size) (cwV 1 hts gX5_changeFame_X5_requireRehearsal rfl rfl rfl (by decide +kernel) ⟨Nat.le_of_ble_eq_true rfl, Nat.le_of_ble_eq_true rfl⟩) hK hG hP hD hS hA [0, 1, 2, 3, 4] rfl rfl 5 0 rfl rfl rfl hl.1 rfl (Nat.le_of_ble_eq_true rfl) dX5_changeFame_2 ⟨Nat.le_of_ble_eq_true rfl, Nat.le_of_ble_eq_true rfl⟩) hP hD hS hA [0, 1, 2, 3, 4] rfl (fun E u ce q9 H locs hw hP hS h1 h2 h3 => kx_out (df, so, sn, sb, se, sf, sc, sp, sk) hnt hlocks h1 h2 h3 hK hS hP hD hw (Nat.le_of_ble_eq_true rfl) (Nat.le_of_ble_eq_true rfl)) (fun u H locs hw hP hS => ?_)
  try dsimp only at hw
  refine lv_iload_n hx hb dX5_changeFame_5 rfl (lv_at hl 2 rfl) ?_
  refine kxR_v (xr_S [] ⟨hx, hb, hml, hown, hts⟩ (cx_X5_requireFame l hst G a2 hw H.size) (va_cwS 1 hts gX5_changeFame_X5_requireFame rfl rfl rfl (by decide +kernel) ⟨Nat.le_of_ble_eq_true rfl, Nat.le_of_ble_eq_true rfl⟩) hK hG hP hD hS hA [] rfl rfl rfl hl.1 rfl (Nat.le_of_ble_eq_true rfl) dX5_changeFame_6 ⟨Nat.le_of_ble_eq_true rfl, Nat.le_of_ble_eq_true rfl⟩) hP hD hS hA [] rfl (fun E u ce q9 H locs hw hP hS h1 h2 h3 => kx_out (df, so, sn, sb, se, sf, sc, sp, sk) hnt hlocks h1 h2 h3 hK hS hP hD hw (Nat.le_of_ble_eq_true rfl) (Nat.le_of_ble_eq_true rfl)) (fun u H locs hw hP hS => ?_)
  try dsimp only at hw
  refine lv_aload_n hx hb dX5_changeFame_9 rfl (lv_at hl 0 rfl) ?_
  refine va_get (D := gD G) (ci := 5) (v := .ref qd) (C := RX5) (T := TX5) (N := 7) hx hb hts k_X5_changeFame_inX5 hown hK hP 0 rfl rfl 0 (by decide) (hts _ k_X5_changeFame_f10) (fun _ h9 => h9) rfl dX5_changeFame_10 ?_
  refine va_get (D := gD G) (ci := 1) (v := .ref qdf) (C := RX1) (T := TX1) (N := 6) hx hb hts k_X5_changeFame_inX1 hown hK hP 1 rfl rfl 2 (by decide) (hts _ k_X5_changeFame_f78) (fun _ h9 => h9) rfl dX5_changeFame_13 ?_
  refine lv_iload_n hx hb dX5_changeFame_16 rfl (lv_at hl 1 rfl) ?_
  obtain ⟨h1, hw⟩ := hw
  refine va_iald hx hb hK hP 4 0 rfl rfl h1 dX5_changeFame_17 ?_
  refine lv_istore_n (lv' := [(3, .int (df a1.toNatClampNeg)), (0, .ref qm), (1, .int a1), (2, .int a2)]) hx hb dX5_changeFame_18 rfl hl (by decide) rfl (fun ls hl => ?_)
  refine lv_aload_n hx hb dX5_changeFame_19 rfl (lv_at hl 1 rfl) ?_
  refine va_get (D := gD G) (ci := 5) (v := .ref qs) (C := RX5) (T := TX5) (N := 7) hx hb hts k_X5_changeFame_inX5 hown hK hP 0 rfl rfl 1 (by decide) (hts _ k_X5_changeFame_f19) (fun _ h9 => h9) rfl dX5_changeFame_20 ?_
  refine lv_aload_n hx hb dX5_changeFame_23 rfl (lv_at hl 1 rfl) ?_
  refine va_get (D := gD G) (ci := 5) (v := .ref qd) (C := RX5) (T := TX5) (N := 7) hx hb hts k_X5_changeFame_inX5 hown hK hP 0 rfl rfl 0 (by decide) (hts _ k_X5_changeFame_f10) (fun _ h9 => h9) rfl dX5_changeFame_24 ?_
  refine kc_v (kr_V [] ⟨hx, hb, hml, hown, hts⟩ (cn_X3_save l G qs qsa qs0 qs0b qs0e qs0f qs1 qs1b qs1e qs1f qs2 qs2b qs2e qs2f qs3 qs3b qs3e qs3f qs4 qs4b qs4e qs4f qs5 qs5b qs5e qs5f qd qdb qde qdf so sn sb se sf sc sp sk db de df dc dp dk hw H.size) (cwV 1 hts gX5_changeFame_X3_save rfl rfl rfl (by decide +kernel) ⟨Nat.le_of_ble_eq_true rfl, Nat.le_of_ble_eq_true rfl⟩) hK hG hP hD hS hA [5, 6, 7, 8, 9, 10, 11, 12, 13, 14, 15, 16, 17, 18, 19, 20, 21, 22, 23, 24, 25, 26, 27, 28, 29, 30, 1, 2, 3, 4] rfl rfl 3 5 rfl rfl rfl hl.1 rfl (Nat.le_of_ble_eq_true rfl) dX5_changeFame_27 ⟨Nat.le_of_ble_eq_true rfl, Nat.le_of_ble_eq_true rfl⟩) hP hD hS hA [5, 6, 7, 8, 9, 10, 11, 12, 13, 14, 15, 16, 17, 18, 19, 20, 21, 22, 23, 24, 25, 26, 27, 28, 29, 30, 1, 2, 3, 4] [0] rfl rfl rfl (by decide) (fun u H locs hw hP hD hS => ?_)
  obtain ⟨so_2, sn_3, sb_4, se_5, sf_6, sc_7, sp_8, sk_9⟩ := u
  try dsimp only at hw
  have hP := hP.sub (ws' := (w0_X5_changeFame G qm qd qs qn qk qt qr qx qdb qde qdf qsa qs0 qs0b qs0e qs0f qs1 qs1b qs1e qs1f qs2 qs2b qs2e qs2f qs3 qs3b qs3e qs3f qs4 qs4b qs4e qs4f qs5 qs5b qs5e qs5f db de df dc dp dk so_2 sn_3 sb_4 se_5 sf_6 sc_7 sp_8 sk_9)) [0, 27, 28, 29, 30, 1, 2, 3, 4, 5, 6, 7, 8, 9, 10, 11, 12, 13, 14, 15, 16, 17, 18, 19, 20, 21, 22, 23, 24, 25, 26] rfl
  have hD := hD.sub (ws' := (w0_X5_changeFame G qm qd qs qn qk qt qr qx qdb qde qdf qsa qs0 qs0b qs0e qs0f qs1 qs1b qs1e qs1f qs2 qs2b qs2e qs2f qs3 qs3b qs3e qs3f qs4 qs4b qs4e qs4f qs5 qs5b qs5e qs5f db de df dc dp dk so_2 sn_3 sb_4 se_5 sf_6 sc_7 sp_8 sk_9)) [0, 27, 28, 29, 30, 1, 2, 3, 4, 5, 6, 7, 8, 9, 10, 11, 12, 13, 14, 15, 16, 17, 18, 19, 20, 21, 22, 23, 24, 25, 26] rfl rfl
  refine lv_aload_n hx hb dX5_changeFame_30 rfl (lv_at hl 1 rfl) ?_
  refine va_get (D := gD G) (ci := 5) (v := .ref qd) (C := RX5) (T := TX5) (N := 7) hx hb hts k_X5_changeFame_inX5 hown hK hP 0 rfl rfl 0 (by decide) (hts _ k_X5_changeFame_f10) (fun _ h9 => h9) rfl dX5_changeFame_31 ?_
  refine va_get (D := gD G) (ci := 1) (v := .ref qdf) (C := RX1) (T := TX1) (N := 6) hx hb hts k_X5_changeFame_inX1 hown hK hP 1 rfl rfl 2 (by decide) (hts _ k_X5_changeFame_f78) (fun _ h9 => h9) rfl dX5_changeFame_34 ?_
  refine lv_iload_n hx hb dX5_changeFame_37 rfl (lv_at hl 2 rfl) ?_
  refine lv_iload_n hx hb dX5_changeFame_38 rfl (lv_at hl 3 rfl) ?_
  obtain ⟨h10, hw⟩ := hw
  refine va_iast hx hb hK hP hD hS 4 0 rfl rfl h10 dX5_changeFame_39 (fun H locs hP hD hS => ?_)
  have hP : va_P (gD G) vwCl (w0_X5_changeFame G qm qd qs qn qk qt qr qx qdb qde qdf qsa qs0 qs0b qs0e qs0f qs1 qs1b qs1e qs1f qs2 qs2b qs2e qs2f qs3 qs3b qs3e qs3f qs4 qs4b qs4e qs4f qs5 qs5b qs5e qs5f db de (upd df a1.toNatClampNeg a2) dc dp dk so_2 sn_3 sb_4 se_5 sf_6 sc_7 sp_8 sk_9) H := hP
  have hD : va_D A (w0_X5_changeFame G qm qd qs qn qk qt qr qx qdb qde qdf qsa qs0 qs0b qs0e qs0f qs1 qs1b qs1e qs1f qs2 qs2b qs2e qs2f qs3 qs3b qs3e qs3f qs4 qs4b qs4e qs4f qs5 qs5b qs5e qs5f db de (upd df a1.toNatClampNeg a2) dc dp dk so_2 sn_3 sb_4 se_5 sf_6 sc_7 sp_8 sk_9) := hD
  refine lv_iload_n hx hb dX5_changeFame_40 rfl (lv_at hl 0 rfl) ?_
  exact fin_x (Nat.le_of_ble_eq_true rfl) (Nat.le_of_ble_eq_true rfl) (fin_i ((upd df a1.toNatClampNeg a2), so_2, sn_3, sb_4, se_5, sf_6, sc_7, sp_8, sk_9) hx hb hr hlocks hK hS hP hD hw dX5_changeFame_41)

abbrev w0_X5_changePause (G : mG) (qm : Nat) (qd : Nat) (qs : Nat) (qn : Nat) (qk : Nat) (qt : Nat) (qr : Nat) (qx : Nat) (qdb : Nat) (qde : Nat) (qdf : Nat) (qsa : Nat) (qs0 : Nat) (qs0b : Nat) (qs0e : Nat) (qs0f : Nat) (qs1 : Nat) (qs1b : Nat) (qs1e : Nat) (qs1f : Nat) (qs2 : Nat) (qs2b : Nat) (qs2e : Nat) (qs2f : Nat) (qs3 : Nat) (qs3b : Nat) (qs3e : Nat) (qs3f : Nat) (qs4 : Nat) (qs4b : Nat) (qs4e : Nat) (qs4f : Nat) (qs5 : Nat) (qs5b : Nat) (qs5e : Nat) (qs5f : Nat) (db : Nat → Int32) (de : Nat → Int32) (df : Nat → Int32) (dc : Int32) (dp : Int32) (dk : Int32) (so : Int32) (sn : Int32) (sb : Nat → Nat → Int32) (se : Nat → Nat → Int32) (sf : Nat → Nat → Int32) (sc : Nat → Int32) (sp : Nat → Int32) (sk : Nat → Int32) : va_W := [(qm, .inr (5, [.ref qd, .ref qs, .ref qn, .ref qk, .ref qt, .ref qr, .ref qx])), (qd, .inr (1, [.ref qdb, .ref qde, .ref qdf, .int dc, .int dp, .int dk])), (qdb, .inl (gI G, (14, .inl db))), (qde, .inl (gI G, (14, .inl de))), (qdf, .inl (gI G, (14, .inl df))), (qs, .inr (3, [.ref qsa, .int so, .int sn])), (qsa, .inl (gQ G, (6, .inr (.inr (.inr (.inr (g6 qs0 qs1 qs2 qs3 qs4 qs5))))))), (qs0, .inr (1, [.ref qs0b, .ref qs0e, .ref qs0f, .int (sc 0), .int (sp 0), .int (sk 0)])), (qs0b, .inl (gI G, (14, .inl (sb 0)))), (qs0e, .inl (gI G, (14, .inl (se 0)))), (qs0f, .inl (gI G, (14, .inl (sf 0)))), (qs1, .inr (1, [.ref qs1b, .ref qs1e, .ref qs1f, .int (sc 1), .int (sp 1), .int (sk 1)])), (qs1b, .inl (gI G, (14, .inl (sb 1)))), (qs1e, .inl (gI G, (14, .inl (se 1)))), (qs1f, .inl (gI G, (14, .inl (sf 1)))), (qs2, .inr (1, [.ref qs2b, .ref qs2e, .ref qs2f, .int (sc 2), .int (sp 2), .int (sk 2)])), (qs2b, .inl (gI G, (14, .inl (sb 2)))), (qs2e, .inl (gI G, (14, .inl (se 2)))), (qs2f, .inl (gI G, (14, .inl (sf 2)))), (qs3, .inr (1, [.ref qs3b, .ref qs3e, .ref qs3f, .int (sc 3), .int (sp 3), .int (sk 3)])), (qs3b, .inl (gI G, (14, .inl (sb 3)))), (qs3e, .inl (gI G, (14, .inl (se 3)))), (qs3f, .inl (gI G, (14, .inl (sf 3)))), (qs4, .inr (1, [.ref qs4b, .ref qs4e, .ref qs4f, .int (sc 4), .int (sp 4), .int (sk 4)])), (qs4b, .inl (gI G, (14, .inl (sb 4)))), (qs4e, .inl (gI G, (14, .inl (se 4)))), (qs4f, .inl (gI G, (14, .inl (sf 4)))), (qs5, .inr (1, [.ref qs5b, .ref qs5e, .ref qs5f, .int (sc 5), .int (sp 5), .int (sk 5)])), (qs5b, .inl (gI G, (14, .inl (sb 5)))), (qs5e, .inl (gI G, (14, .inl (se 5)))), (qs5f, .inl (gI G, (14, .inl (sf 5))))]
set_option maxRecDepth 100000 in
theorem k_X5_changePause_l110 : Cond.classLink RX5 110 "java/lang/IllegalArgumentException" ∈ wsX5_changePause := by decide +kernel
set_option maxRecDepth 100000 in
theorem k_X5_changePause_i110 : Cond.initialized "java/lang/IllegalArgumentException" ∈ wsX5_changePause := by decide +kernel
set_option maxRecDepth 100000 in
theorem k_X5_changePause_a114 : ∀ w ∈ (vx_atS RX5 114 "java/lang/IllegalArgumentException" gSup).filter goodWord, w ∈ wsX5_changePause := by decide +kernel
set_option maxRecDepth 100000 in
theorem k_X5_changePause_inX5 : ∀ w ∈ u_ws RX5 TX5 7, w ∈ wsX5_changePause := by decide +kernel
set_option maxRecDepth 100000 in
theorem k_X5_changePause_f10 : Cond.fieldLink RX5 10 "RehearsalRoom" "day" "LRehearsalRoom$Day;" ∈ wsX5_changePause := by decide +kernel
set_option maxRecDepth 100000 in
theorem k_X5_changePause_inX1 : ∀ w ∈ u_ws RX1 TX1 6, w ∈ wsX5_changePause := by decide +kernel
set_option maxRecDepth 100000 in
theorem k_X5_changePause_f120 : Cond.fieldLink RX5 120 "RehearsalRoom$Day" "pause" "I" ∈ wsX5_changePause := by decide +kernel
set_option maxRecDepth 100000 in
theorem k_X5_changePause_f19 : Cond.fieldLink RX5 19 "RehearsalRoom" "saved" "LRehearsalRoom$SavedDays;" ∈ wsX5_changePause := by decide +kernel
set_option maxRecDepth 100000 in
theorem k_X5_changePause_l93 : Cond.classLink RX5 93 "java/lang/IllegalStateException" ∈ wsX5_changePause := by decide +kernel
set_option maxRecDepth 100000 in
theorem k_X5_changePause_i93 : Cond.initialized "java/lang/IllegalStateException" ∈ wsX5_changePause := by decide +kernel
set_option maxRecDepth 100000 in
theorem k_X5_changePause_a97 : ∀ w ∈ (vx_atS RX5 97 "java/lang/IllegalStateException" gSup).filter goodWord, w ∈ wsX5_changePause := by decide +kernel
set_option maxHeartbeats 8000000 in
set_option maxRecDepth 100000 in
theorem cx_X5_changePause (l : Launch) (hst : l.stackTraces = false) (G : mG) (qm : Nat) (qd : Nat) (qs : Nat) (qn : Nat) (qk : Nat) (qt : Nat) (qr : Nat) (qx : Nat) (qdb : Nat) (qde : Nat) (qdf : Nat) (qsa : Nat) (qs0 : Nat) (qs0b : Nat) (qs0e : Nat) (qs0f : Nat) (qs1 : Nat) (qs1b : Nat) (qs1e : Nat) (qs1f : Nat) (qs2 : Nat) (qs2b : Nat) (qs2e : Nat) (qs2f : Nat) (qs3 : Nat) (qs3b : Nat) (qs3e : Nat) (qs3f : Nat) (qs4 : Nat) (qs4b : Nat) (qs4e : Nat) (qs4f : Nat) (qs5 : Nat) (qs5b : Nat) (qs5e : Nat) (qs5f : Nat) (db : Nat → Int32) (de : Nat → Int32) (df : Nat → Int32) (dc : Int32) (dp : Int32) (dk : Int32) (so : Int32) (sn : Int32) (sb : Nat → Nat → Int32) (se : Nat → Nat → Int32) (sf : Nat → Nat → Int32) (sc : Nat → Int32) (sp : Nat → Int32) (sk : Nat → Int32) (a1 : Int32) {Q : Int32 → Int32 → Int32 → Int32 → (Nat → Nat → Int32) → (Nat → Nat → Int32) → (Nat → Nat → Int32) → (Nat → Int32) → (Nat → Int32) → (Nat → Int32) → Prop} {X : String → Int32 → Int32 → Int32 → (Nat → Nat → Int32) → (Nat → Nat → Int32) → (Nat → Nat → Int32) → (Nat → Int32) → (Nat → Int32) → (Nat → Int32) → Prop} (hw : wx_X5_changePause db de df dc dp dk so sn sb se sf sc sp sk a1 Q X) (sz : Nat) :
    vx_Met l yX5_changePause wsX5_changePause ({ frames := 6, cells := 1, slots := 6, locals := 90 } : Room) (va_Pc [.ref qm, .int a1] (mPre G (w0_X5_changePause G qm qd qs qn qk qt qr qx qdb qde qdf qsa qs0 qs0b qs0e qs0f qs1 qs1b qs1e qs1f qs2 qs2b qs2e qs2f qs3 qs3b qs3e qs3f qs4 qs4b qs4e qs4f qs5 qs5b qs5e qs5f db de df dc dp dk so sn sb se sf sc sp sk) sz)) (va_Qi (fun (r : Int32) (u : Int32 × Int32 × Int32 × (Nat → Nat → Int32) × (Nat → Nat → Int32) × (Nat → Nat → Int32) × (Nat → Int32) × (Nat → Int32) × (Nat → Int32)) => Q r u.1 u.2.1 u.2.2.1 u.2.2.2.1 u.2.2.2.2.1 u.2.2.2.2.2.1 u.2.2.2.2.2.2.1 u.2.2.2.2.2.2.2.1 u.2.2.2.2.2.2.2.2) (mBk G (va_A (w0_X5_changePause G qm qd qs qn qk qt qr qx qdb qde qdf qsa qs0 qs0b qs0e qs0f qs1 qs1b qs1e qs1f qs2 qs2b qs2e qs2f qs3 qs3b qs3e qs3f qs4 qs4b qs4e qs4f qs5 qs5b qs5e qs5f db de df dc dp dk so sn sb se sf sc sp sk) sz) (fun (u : Int32 × Int32 × Int32 × (Nat → Nat → Int32) × (Nat → Nat → Int32) × (Nat → Nat → Int32) × (Nat → Int32) × (Nat → Int32) × (Nat → Int32)) => (w0_X5_changePause G qm qd qs qn qk qt qr qx qdb qde qdf qsa qs0 qs0b qs0e qs0f qs1 qs1b qs1e qs1f qs2 qs2b qs2e qs2f qs3 qs3b qs3e qs3f qs4 qs4b qs4e qs4f qs5 qs5b qs5e qs5f db de df dc u.1 dk u.2.1 u.2.2.1 u.2.2.2.1 u.2.2.2.2.1 u.2.2.2.2.2.1 u.2.2.2.2.2.2.1 u.2.2.2.2.2.2.2.1 u.2.2.2.2.2.2.2.2))) (va_A (w0_X5_changePause G qm qd qs qn qk qt qr qx qdb qde qdf qsa qs0 qs0b qs0e qs0f qs1 qs1b qs1e qs1f qs2 qs2b qs2e qs2f qs3 qs3b qs3e qs3f qs4 qs4b qs4e qs4f qs5 qs5b qs5e qs5f db de df dc dp dk so sn sb se sf sc sp sk) sz)) (vx_X (fun _ => True) (fun E u t => (fun (E : String) (u : Int32 × Int32 × Int32 × (Nat → Nat → Int32) × (Nat → Nat → Int32) × (Nat → Nat → Int32) × (Nat → Int32) × (Nat → Int32) × (Nat → Int32)) => X E u.1 u.2.1 u.2.2.1 u.2.2.2.1 u.2.2.2.2.1 u.2.2.2.2.2.1 u.2.2.2.2.2.2.1 u.2.2.2.2.2.2.2.1 u.2.2.2.2.2.2.2.2) E u ∧ mBk G (va_A (w0_X5_changePause G qm qd qs qn qk qt qr qx qdb qde qdf qsa qs0 qs0b qs0e qs0f qs1 qs1b qs1e qs1f qs2 qs2b qs2e qs2f qs3 qs3b qs3e qs3f qs4 qs4b qs4e qs4f qs5 qs5b qs5e qs5f db de df dc dp dk so sn sb se sf sc sp sk) sz) (fun (u : Int32 × Int32 × Int32 × (Nat → Nat → Int32) × (Nat → Nat → Int32) × (Nat → Nat → Int32) × (Nat → Int32) × (Nat → Int32) × (Nat → Int32)) => (w0_X5_changePause G qm qd qs qn qk qt qr qx qdb qde qdf qsa qs0 qs0b qs0e qs0f qs1 qs1b qs1e qs1f qs2 qs2b qs2e qs2f qs3 qs3b qs3e qs3f qs4 qs4b qs4e qs4f qs5 qs5b qs5e qs5f db de df dc u.1 dk u.2.1 u.2.2.1 u.2.2.2.1 u.2.2.2.2.1 u.2.2.2.2.2.1 u.2.2.2.2.2.2.1 u.2.2.2.2.2.2.2.1 u.2.2.2.2.2.2.2.2)) u t) (va_A (w0_X5_changePause G qm qd qs qn qk qt qr qx qdb qde qdf qsa qs0 qs0b qs0e qs0f qs1 qs1b qs1e qs1f qs2 qs2b qs2e qs2f qs3 qs3b qs3e qs3f qs4 qs4b qs4e qs4f qs5 qs5b qs5e qs5f db de df dc dp dk so sn sb se sf sc sp sk) sz)) 1 6 (va_A (w0_X5_changePause G qm qd qs qn qk qt qr qx qdb qde qdf qsa qs0 qs0b qs0e qs0f qs1 qs1b qs1e qs1f qs2 qs2b qs2e qs2f qs3 qs3b qs3e qs3f qs4 qs4b qs4e qs4f qs5 qs5b qs5e qs5f db de df dc dp dk so sn sb se sf sc sp sk) sz) := by
  refine mx_i (cc := cX5_changePause) (maxL := 3) (ret := some .int) (post := (fun (r : Int32) (u : Int32 × Int32 × Int32 × (Nat → Nat → Int32) × (Nat → Nat → Int32) × (Nat → Nat → Int32) × (Nat → Int32) × (Nat → Int32) × (Nat → Int32)) => Q r u.1 u.2.1 u.2.2.1 u.2.2.2.1 u.2.2.2.2.1 u.2.2.2.2.2.1 u.2.2.2.2.2.2.1 u.2.2.2.2.2.2.2.1 u.2.2.2.2.2.2.2.2)) (w1 := (fun (u : Int32 × Int32 × Int32 × (Nat → Nat → Int32) × (Nat → Nat → Int32) × (Nat → Nat → Int32) × (Nat → Int32) × (Nat → Int32) × (Nat → Int32)) => (w0_X5_changePause G qm qd qs qn qk qt qr qx qdb qde qdf qsa qs0 qs0b qs0e qs0f qs1 qs1b qs1e qs1f qs2 qs2b qs2e qs2f qs3 qs3b qs3e qs3f qs4 qs4b qs4e qs4f qs5 qs5b qs5e qs5f db de df dc u.1 dk u.2.1 u.2.2.1 u.2.2.2.1 u.2.2.2.2.1 u.2.2.2.2.2.1 u.2.2.2.2.2.2.1 u.2.2.2.2.2.2.2.1 u.2.2.2.2.2.2.2.2))) (px := (fun (E : String) (u : Int32 × Int32 × Int32 × (Nat → Nat → Int32) × (Nat → Nat → Int32) × (Nat → Nat → Int32) × (Nat → Int32) × (Nat → Int32) × (Nat → Int32)) => X E u.1 u.2.1 u.2.2.1 u.2.2.2.1 u.2.2.2.2.1 u.2.2.2.2.2.1 u.2.2.2.2.2.2.1 u.2.2.2.2.2.2.2.1 u.2.2.2.2.2.2.2.2)) (by decide) rfl (Nat.le_of_ble_eq_true rfl) ?_ sz
  intro p e s m below meth c A ls H locs hx hb hr hml hown hts hlocks hnt hK hG hP hD hS hA hl
  have hown : s.vm.findClass RX5 = some m.cls := hown
  have hl : lv_has ls 3 [(0, .ref qm), (1, .int a1)] := hl
  have J10 : ∀ (dp : Int32) (so : Int32) (sn : Int32) (sb : Nat → Nat → Int32) (se : Nat → Nat → Int32) (sf : Nat → Nat → Int32) (sc : Nat → Int32) (sp : Nat → Int32) (sk : Nat → Int32) (x1 : Int32) (H : Heap) (locs : List Loc) (ls : Array Slot), va_P (gD G) vwCl (w0_X5_changePause G qm qd qs qn qk qt qr qx qdb qde qdf qsa qs0 qs0b qs0e qs0f qs1 qs1b qs1e qs1f qs2 qs2b qs2e qs2f qs3 qs3b qs3e qs3f qs4 qs4b qs4e qs4f qs5 qs5b qs5e qs5f db de df dc dp dk so sn sb se sf sc sp sk) H → va_D A (w0_X5_changePause G qm qd qs qn qk qt qr qx qdb qde qdf qsa qs0 qs0b qs0e qs0f qs1 qs1b qs1e qs1f qs2 qs2b qs2e qs2f qs3 qs3b qs3e qs3f qs4 qs4b qs4e qs4f qs5 qs5b qs5e qs5f db de df dc dp dk so sn sb se sf sc sp sk) → va_S A s.heap H locs → lv_has ls 3 [(0, .ref qm), (1, .int x1)] → wj_x_X5_changePause_10 db de df dc dk Q X dp so sn sb se sf sc sp sk x1 → W p l e ({ frames := 6, cells := 1, slots := 6, locals := 90 } : Room) s m ([.ref qm, .int a1] : List Value).toArray below meth c H locs 0 0 (vx_MQ below (va_Qi (fun (r : Int32) (u : Int32 × Int32 × Int32 × (Nat → Nat → Int32) × (Nat → Nat → Int32) × (Nat → Nat → Int32) × (Nat → Int32) × (Nat → Int32) × (Nat → Int32)) => Q r u.1 u.2.1 u.2.2.1 u.2.2.2.1 u.2.2.2.2.1 u.2.2.2.2.2.1 u.2.2.2.2.2.2.1 u.2.2.2.2.2.2.2.1 u.2.2.2.2.2.2.2.2) (mBk G A (fun (u : Int32 × Int32 × Int32 × (Nat → Nat → Int32) × (Nat → Nat → Int32) × (Nat → Nat → Int32) × (Nat → Int32) × (Nat → Int32) × (Nat → Int32)) => (w0_X5_changePause G qm qd qs qn qk qt qr qx qdb qde qdf qsa qs0 qs0b qs0e qs0f qs1 qs1b qs1e qs1f qs2 qs2b qs2e qs2f qs3 qs3b qs3e qs3f qs4 qs4b qs4e qs4f qs5 qs5b qs5e qs5f db de df dc u.1 dk u.2.1 u.2.2.1 u.2.2.2.1 u.2.2.2.2.1 u.2.2.2.2.2.1 u.2.2.2.2.2.2.1 u.2.2.2.2.2.2.2.1 u.2.2.2.2.2.2.2.2))) A) (vx_X (fun _ => True) (fun E u t => (fun (E : String) (u : Int32 × Int32 × Int32 × (Nat → Nat → Int32) × (Nat → Nat → Int32) × (Nat → Nat → Int32) × (Nat → Int32) × (Nat → Int32) × (Nat → Int32)) => X E u.1 u.2.1 u.2.2.1 u.2.2.2.1 u.2.2.2.2.1 u.2.2.2.2.2.1 u.2.2.2.2.2.2.1 u.2.2.2.2.2.2.2.1 u.2.2.2.2.2.2.2.2) E u ∧ mBk G A (fun (u : Int32 × Int32 × Int32 × (Nat → Nat → Int32) × (Nat → Nat → Int32) × (Nat → Nat → Int32) × (Nat → Int32) × (Nat → Int32) × (Nat → Int32)) => (w0_X5_changePause G qm qd qs qn qk qt qr qx qdb qde qdf qsa qs0 qs0b qs0e qs0f qs1 qs1b qs1e qs1f qs2 qs2b qs2e qs2f qs3 qs3b qs3e qs3f qs4 qs4b qs4e qs4f qs5 qs5b qs5e qs5f db de df dc u.1 dk u.2.1 u.2.2.1 u.2.2.2.1 u.2.2.2.2.1 u.2.2.2.2.2.1 u.2.2.2.2.2.2.1 u.2.2.2.2.2.2.2.1 u.2.2.2.2.2.2.2.2)) u t) A) ([.ref qm, .int a1] : List Value).toArray s 1 6 A) (F0 m 10 ls []) := by
    intro dp so sn sb se sf sc sp sk x1 H locs ls hP hD hS hl hw
    unfold wj_x_X5_changePause_10 at hw
    exact kth (nL := 3) "the pause is out of range" (dp, so, sn, sb, se, sf, sc, sp, sk) hx hb hst hown hts hG hnt hlocks hml hl.1 hK hS hP hD hw ⟨by decide +kernel, by decide +kernel⟩ (by decide +kernel) k_X5_changePause_l110 k_X5_changePause_i110 k_X5_changePause_a114 tnb_114 tgd_114 dX5_changePause_10 dX5_changePause_13 dX5_changePause_19 ⟨dX5_changePause_14, dX5_changePause_16⟩ ⟨by decide, by decide, by decide, by decide⟩ (Nat.le_of_ble_eq_true rfl) (Nat.le_of_ble_eq_true rfl)
  unfold wx_X5_changePause at hw
  refine lv_iload_n hx hb dX5_changePause_0 rfl (lv_at hl 1 rfl) ?_
  refine lv_if_lt (tgt := 10) hx hb dX5_changePause_1 (by decide) (fun cd1 => ?_) (fun cd1 => ?_)
  · have hw := hw.1 cd1
    exact J10 dp so sn sb se sf sc sp sk a1 _ _ _ hP hD hS hl hw
  · have hw := hw.2 cd1
    refine lv_iload_n hx hb dX5_changePause_4 rfl (lv_at hl 1 rfl) ?_
    refine lv_bipush (v := 8) hx hb dX5_changePause_5 (by decide) ?_
    refine lv_icmp_le (tgt := 20) hx hb dX5_changePause_7 (by decide) (fun cd2 => ?_) (fun cd2 => ?_)
    · have hw := hw.1 cd2
      refine lv_aload_n hx hb dX5_changePause_20 rfl (lv_at hl 0 rfl) ?_
      refine va_get (D := gD G) (ci := 5) (v := .ref qd) (C := RX5) (T := TX5) (N := 7) hx hb hts k_X5_changePause_inX5 hown hK hP 0 rfl rfl 0 (by decide) (hts _ k_X5_changePause_f10) (fun _ h9 => h9) rfl dX5_changePause_21 ?_
      refine lv_iload_n hx hb dX5_changePause_24 rfl (lv_at hl 1 rfl) ?_
      refine kcR_i (kr_V [] ⟨hx, hb, hml, hown, hts⟩ (cn_X1_bookingsAllowPause l G qd qdb qde qdf db de df dc dp dk a1 hw H.size) (cwV 1 hts gX5_changePause_X1_bookingsAllowPause rfl rfl rfl (by decide +kernel) ⟨Nat.le_of_ble_eq_true rfl, Nat.le_of_ble_eq_true rfl⟩) hK hG hP hD hS hA [1, 2, 3, 4] rfl rfl 1 1 rfl rfl rfl hl.1 rfl (Nat.le_of_ble_eq_true rfl) dX5_changePause_25 ⟨Nat.le_of_ble_eq_true rfl, Nat.le_of_ble_eq_true rfl⟩) hP hD hS hA [1, 2, 3, 4] rfl (fun r3 u H locs hw hP hS => ?_)
      try dsimp only at hw
      obtain ⟨hz_r3, hw⟩ := hw
      refine lv_if_ne (tgt := 41) hx hb dX5_changePause_28 (by decide) (fun cd4 => ?_) (fun cd4 => ?_)
      · have hw := hw.1 cd4
        refine lv_aload_n hx hb dX5_changePause_41 rfl (lv_at hl 0 rfl) ?_
        refine va_get (D := gD G) (ci := 5) (v := .ref qd) (C := RX5) (T := TX5) (N := 7) hx hb hts k_X5_changePause_inX5 hown hK hP 0 rfl rfl 0 (by decide) (hts _ k_X5_changePause_f10) (fun _ h9 => h9) rfl dX5_changePause_42 ?_
        refine va_get (D := gD G) (ci := 1) (v := .int dp) (C := RX1) (T := TX1) (N := 6) hx hb hts k_X5_changePause_inX1 hown hK hP 1 rfl rfl 4 (by decide) (hts _ k_X5_changePause_f120) (fun _ h9 => h9) rfl dX5_changePause_45 ?_
        refine lv_istore_n (lv' := [(2, .int dp), (0, .ref qm), (1, .int a1)]) hx hb dX5_changePause_48 rfl hl (by decide) rfl (fun ls hl => ?_)
        refine lv_aload_n hx hb dX5_changePause_49 rfl (lv_at hl 1 rfl) ?_
        refine va_get (D := gD G) (ci := 5) (v := .ref qs) (C := RX5) (T := TX5) (N := 7) hx hb hts k_X5_changePause_inX5 hown hK hP 0 rfl rfl 1 (by decide) (hts _ k_X5_changePause_f19) (fun _ h9 => h9) rfl dX5_changePause_50 ?_
        refine lv_aload_n hx hb dX5_changePause_53 rfl (lv_at hl 1 rfl) ?_
        refine va_get (D := gD G) (ci := 5) (v := .ref qd) (C := RX5) (T := TX5) (N := 7) hx hb hts k_X5_changePause_inX5 hown hK hP 0 rfl rfl 0 (by decide) (hts _ k_X5_changePause_f10) (fun _ h9 => h9) rfl dX5_changePause_54 ?_
        refine kc_v (kr_V [] ⟨hx, hb, hml, hown, hts⟩ (cn_X3_save l G qs qsa qs0 qs0b qs0e qs0f qs1 qs1b qs1e qs1f qs2 qs2b qs2e qs2f qs3 qs3b qs3e qs3f qs4 qs4b qs4e qs4f qs5 qs5b qs5e qs5f qd qdb qde qdf so sn sb se sf sc sp sk db de df dc dp dk hw H.size) (cwV 1 hts gX5_changePause_X3_save rfl rfl rfl (by decide +kernel) ⟨Nat.le_of_ble_eq_true rfl, Nat.le_of_ble_eq_true rfl⟩) hK hG hP hD hS hA [5, 6, 7, 8, 9, 10, 11, 12, 13, 14, 15, 16, 17, 18, 19, 20, 21, 22, 23, 24, 25, 26, 27, 28, 29, 30, 1, 2, 3, 4] rfl rfl 3 5 rfl rfl rfl hl.1 rfl (Nat.le_of_ble_eq_true rfl) dX5_changePause_57 ⟨Nat.le_of_ble_eq_true rfl, Nat.le_of_ble_eq_true rfl⟩) hP hD hS hA [5, 6, 7, 8, 9, 10, 11, 12, 13, 14, 15, 16, 17, 18, 19, 20, 21, 22, 23, 24, 25, 26, 27, 28, 29, 30, 1, 2, 3, 4] [0] rfl rfl rfl (by decide) (fun u H locs hw hP hD hS => ?_)
        obtain ⟨so_5, sn_6, sb_7, se_8, sf_9, sc_10, sp_11, sk_12⟩ := u
        try dsimp only at hw
        have hP := hP.sub (ws' := (w0_X5_changePause G qm qd qs qn qk qt qr qx qdb qde qdf qsa qs0 qs0b qs0e qs0f qs1 qs1b qs1e qs1f qs2 qs2b qs2e qs2f qs3 qs3b qs3e qs3f qs4 qs4b qs4e qs4f qs5 qs5b qs5e qs5f db de df dc dp dk so_5 sn_6 sb_7 se_8 sf_9 sc_10 sp_11 sk_12)) [0, 27, 28, 29, 30, 1, 2, 3, 4, 5, 6, 7, 8, 9, 10, 11, 12, 13, 14, 15, 16, 17, 18, 19, 20, 21, 22, 23, 24, 25, 26] rfl
        have hD := hD.sub (ws' := (w0_X5_changePause G qm qd qs qn qk qt qr qx qdb qde qdf qsa qs0 qs0b qs0e qs0f qs1 qs1b qs1e qs1f qs2 qs2b qs2e qs2f qs3 qs3b qs3e qs3f qs4 qs4b qs4e qs4f qs5 qs5b qs5e qs5f db de df dc dp dk so_5 sn_6 sb_7 se_8 sf_9 sc_10 sp_11 sk_12)) [0, 27, 28, 29, 30, 1, 2, 3, 4, 5, 6, 7, 8, 9, 10, 11, 12, 13, 14, 15, 16, 17, 18, 19, 20, 21, 22, 23, 24, 25, 26] rfl rfl
        refine lv_aload_n hx hb dX5_changePause_60 rfl (lv_at hl 1 rfl) ?_
        refine va_get (D := gD G) (ci := 5) (v := .ref qd) (C := RX5) (T := TX5) (N := 7) hx hb hts k_X5_changePause_inX5 hown hK hP 0 rfl rfl 0 (by decide) (hts _ k_X5_changePause_f10) (fun _ h9 => h9) rfl dX5_changePause_61 ?_
        refine lv_iload_n hx hb dX5_changePause_64 rfl (lv_at hl 2 rfl) ?_
        refine va_put (D := gD G) (ci := 1) (v := .int a1) (ty := .int) (C := RX1) (T := TX1) (N := 6) hx hb hts k_X5_changePause_inX1 tyX1 tyX1_ok nmX1 hown hK hP hD hS 1 rfl rfl 4 (by decide) (hts _ k_X5_changePause_f120) (fun _ h9 => h9) rfl (by decide +kernel) rfl rfl (Nat.le_of_ble_eq_true rfl) dX5_changePause_65 (fun H locs hP hD hS => ?_)
        have hP : va_P (gD G) vwCl (w0_X5_changePause G qm qd qs qn qk qt qr qx qdb qde qdf qsa qs0 qs0b qs0e qs0f qs1 qs1b qs1e qs1f qs2 qs2b qs2e qs2f qs3 qs3b qs3e qs3f qs4 qs4b qs4e qs4f qs5 qs5b qs5e qs5f db de df dc a1 dk so_5 sn_6 sb_7 se_8 sf_9 sc_10 sp_11 sk_12) H := hP
        have hD : va_D A (w0_X5_changePause G qm qd qs qn qk qt qr qx qdb qde qdf qsa qs0 qs0b qs0e qs0f qs1 qs1b qs1e qs1f qs2 qs2b qs2e qs2f qs3 qs3b qs3e qs3f qs4 qs4b qs4e qs4f qs5 qs5b qs5e qs5f db de df dc a1 dk so_5 sn_6 sb_7 se_8 sf_9 sc_10 sp_11 sk_12) := hD
        refine lv_iload_n hx hb dX5_changePause_68 rfl (lv_at hl 0 rfl) ?_
        exact fin_x (Nat.le_of_ble_eq_true rfl) (Nat.le_of_ble_eq_true rfl) (fin_i (a1, so_5, sn_6, sb_7, se_8, sf_9, sc_10, sp_11, sk_12) hx hb hr hlocks hK hS hP hD hw dX5_changePause_69)
      · have hw := hw.2 cd4
        exact kth (nL := 3) "booked rehearsals would be in conflict" (dp, so, sn, sb, se, sf, sc, sp, sk) hx hb hst hown hts hG hnt hlocks hml hl.1 hK hS hP hD hw ⟨by decide +kernel, by decide +kernel⟩ (by decide +kernel) k_X5_changePause_l93 k_X5_changePause_i93 k_X5_changePause_a97 tnb_97 tgd_97 dX5_changePause_31 dX5_changePause_34 dX5_changePause_40 ⟨dX5_changePause_35, dX5_changePause_37⟩ ⟨by decide, by decide, by decide, by decide⟩ (Nat.le_of_ble_eq_true rfl) (Nat.le_of_ble_eq_true rfl)
    · have hw := hw.2 cd2
      exact J10 dp so sn sb se sf sc sp sk a1 _ _ _ hP hD hS hl hw

abbrev w0_X5_book (G : mG) (qm : Nat) (qd : Nat) (qs : Nat) (qn : Nat) (qk : Nat) (qt : Nat) (qr : Nat) (qx : Nat) (qdb : Nat) (qde : Nat) (qdf : Nat) (qsa : Nat) (qs0 : Nat) (qs0b : Nat) (qs0e : Nat) (qs0f : Nat) (qs1 : Nat) (qs1b : Nat) (qs1e : Nat) (qs1f : Nat) (qs2 : Nat) (qs2b : Nat) (qs2e : Nat) (qs2f : Nat) (qs3 : Nat) (qs3b : Nat) (qs3e : Nat) (qs3f : Nat) (qs4 : Nat) (qs4b : Nat) (qs4e : Nat) (qs4f : Nat) (qs5 : Nat) (qs5b : Nat) (qs5e : Nat) (qs5f : Nat) (db : Nat → Int32) (de : Nat → Int32) (df : Nat → Int32) (dc : Int32) (dp : Int32) (dk : Int32) (so : Int32) (sn : Int32) (sb : Nat → Nat → Int32) (se : Nat → Nat → Int32) (sf : Nat → Nat → Int32) (sc : Nat → Int32) (sp : Nat → Int32) (sk : Nat → Int32) : va_W := [(qm, .inr (5, [.ref qd, .ref qs, .ref qn, .ref qk, .ref qt, .ref qr, .ref qx])), (qd, .inr (1, [.ref qdb, .ref qde, .ref qdf, .int dc, .int dp, .int dk])), (qdb, .inl (gI G, (14, .inl db))), (qde, .inl (gI G, (14, .inl de))), (qdf, .inl (gI G, (14, .inl df))), (qs, .inr (3, [.ref qsa, .int so, .int sn])), (qsa, .inl (gQ G, (6, .inr (.inr (.inr (.inr (g6 qs0 qs1 qs2 qs3 qs4 qs5))))))), (qs0, .inr (1, [.ref qs0b, .ref qs0e, .ref qs0f, .int (sc 0), .int (sp 0), .int (sk 0)])), (qs0b, .inl (gI G, (14, .inl (sb 0)))), (qs0e, .inl (gI G, (14, .inl (se 0)))), (qs0f, .inl (gI G, (14, .inl (sf 0)))), (qs1, .inr (1, [.ref qs1b, .ref qs1e, .ref qs1f, .int (sc 1), .int (sp 1), .int (sk 1)])), (qs1b, .inl (gI G, (14, .inl (sb 1)))), (qs1e, .inl (gI G, (14, .inl (se 1)))), (qs1f, .inl (gI G, (14, .inl (sf 1)))), (qs2, .inr (1, [.ref qs2b, .ref qs2e, .ref qs2f, .int (sc 2), .int (sp 2), .int (sk 2)])), (qs2b, .inl (gI G, (14, .inl (sb 2)))), (qs2e, .inl (gI G, (14, .inl (se 2)))), (qs2f, .inl (gI G, (14, .inl (sf 2)))), (qs3, .inr (1, [.ref qs3b, .ref qs3e, .ref qs3f, .int (sc 3), .int (sp 3), .int (sk 3)])), (qs3b, .inl (gI G, (14, .inl (sb 3)))), (qs3e, .inl (gI G, (14, .inl (se 3)))), (qs3f, .inl (gI G, (14, .inl (sf 3)))), (qs4, .inr (1, [.ref qs4b, .ref qs4e, .ref qs4f, .int (sc 4), .int (sp 4), .int (sk 4)])), (qs4b, .inl (gI G, (14, .inl (sb 4)))), (qs4e, .inl (gI G, (14, .inl (se 4)))), (qs4f, .inl (gI G, (14, .inl (sf 4)))), (qs5, .inr (1, [.ref qs5b, .ref qs5e, .ref qs5f, .int (sc 5), .int (sp 5), .int (sk 5)])), (qs5b, .inl (gI G, (14, .inl (sb 5)))), (qs5e, .inl (gI G, (14, .inl (se 5)))), (qs5f, .inl (gI G, (14, .inl (sf 5))))]
set_option maxRecDepth 100000 in
theorem k_X5_book_inX5 : ∀ w ∈ u_ws RX5 TX5 7, w ∈ wsX5_book := by decide +kernel
set_option maxRecDepth 100000 in
theorem k_X5_book_f10 : Cond.fieldLink RX5 10 "RehearsalRoom" "day" "LRehearsalRoom$Day;" ∈ wsX5_book := by decide +kernel
set_option maxRecDepth 100000 in
theorem k_X5_book_inX1 : ∀ w ∈ u_ws RX1 TX1 6, w ∈ wsX5_book := by decide +kernel
set_option maxRecDepth 100000 in
theorem k_X5_book_f128 : Cond.fieldLink RX5 128 "RehearsalRoom$Day" "bookings" "I" ∈ wsX5_book := by decide +kernel
set_option maxRecDepth 100000 in
theorem k_X5_book_f19 : Cond.fieldLink RX5 19 "RehearsalRoom" "saved" "LRehearsalRoom$SavedDays;" ∈ wsX5_book := by decide +kernel
set_option maxRecDepth 100000 in
theorem k_X5_book_l93 : Cond.classLink RX5 93 "java/lang/IllegalStateException" ∈ wsX5_book := by decide +kernel
set_option maxRecDepth 100000 in
theorem k_X5_book_i93 : Cond.initialized "java/lang/IllegalStateException" ∈ wsX5_book := by decide +kernel
set_option maxRecDepth 100000 in
theorem k_X5_book_a97 : ∀ w ∈ (vx_atS RX5 97 "java/lang/IllegalStateException" gSup).filter goodWord, w ∈ wsX5_book := by decide +kernel
set_option maxHeartbeats 8000000 in
set_option maxRecDepth 100000 in
theorem cx_X5_book (l : Launch) (hst : l.stackTraces = false) (G : mG) (qm : Nat) (qd : Nat) (qs : Nat) (qn : Nat) (qk : Nat) (qt : Nat) (qr : Nat) (qx : Nat) (qdb : Nat) (qde : Nat) (qdf : Nat) (qsa : Nat) (qs0 : Nat) (qs0b : Nat) (qs0e : Nat) (qs0f : Nat) (qs1 : Nat) (qs1b : Nat) (qs1e : Nat) (qs1f : Nat) (qs2 : Nat) (qs2b : Nat) (qs2e : Nat) (qs2f : Nat) (qs3 : Nat) (qs3b : Nat) (qs3e : Nat) (qs3f : Nat) (qs4 : Nat) (qs4b : Nat) (qs4e : Nat) (qs4f : Nat) (qs5 : Nat) (qs5b : Nat) (qs5e : Nat) (qs5f : Nat) (db : Nat → Int32) (de : Nat → Int32) (df : Nat → Int32) (dc : Int32) (dp : Int32) (dk : Int32) (so : Int32) (sn : Int32) (sb : Nat → Nat → Int32) (se : Nat → Nat → Int32) (sf : Nat → Nat → Int32) (sc : Nat → Int32) (sp : Nat → Int32) (sk : Nat → Int32) (a1 : Int32) {Q : Int32 → Int32 → Int32 → Int32 → (Nat → Nat → Int32) → (Nat → Nat → Int32) → (Nat → Nat → Int32) → (Nat → Int32) → (Nat → Int32) → (Nat → Int32) → Prop} {X : String → Int32 → Int32 → Int32 → (Nat → Nat → Int32) → (Nat → Nat → Int32) → (Nat → Nat → Int32) → (Nat → Int32) → (Nat → Int32) → (Nat → Int32) → Prop} (hw : wx_X5_book db de df dc dp dk so sn sb se sf sc sp sk a1 Q X) (sz : Nat) :
    vx_Met l yX5_book wsX5_book ({ frames := 7, cells := 2, slots := 12, locals := 111 } : Room) (va_Pc [.ref qm, .int a1] (mPre G (w0_X5_book G qm qd qs qn qk qt qr qx qdb qde qdf qsa qs0 qs0b qs0e qs0f qs1 qs1b qs1e qs1f qs2 qs2b qs2e qs2f qs3 qs3b qs3e qs3f qs4 qs4b qs4e qs4f qs5 qs5b qs5e qs5f db de df dc dp dk so sn sb se sf sc sp sk) sz)) (va_Qi (fun (r : Int32) (u : Int32 × Int32 × Int32 × (Nat → Nat → Int32) × (Nat → Nat → Int32) × (Nat → Nat → Int32) × (Nat → Int32) × (Nat → Int32) × (Nat → Int32)) => Q r u.1 u.2.1 u.2.2.1 u.2.2.2.1 u.2.2.2.2.1 u.2.2.2.2.2.1 u.2.2.2.2.2.2.1 u.2.2.2.2.2.2.2.1 u.2.2.2.2.2.2.2.2) (mBk G (va_A (w0_X5_book G qm qd qs qn qk qt qr qx qdb qde qdf qsa qs0 qs0b qs0e qs0f qs1 qs1b qs1e qs1f qs2 qs2b qs2e qs2f qs3 qs3b qs3e qs3f qs4 qs4b qs4e qs4f qs5 qs5b qs5e qs5f db de df dc dp dk so sn sb se sf sc sp sk) sz) (fun (u : Int32 × Int32 × Int32 × (Nat → Nat → Int32) × (Nat → Nat → Int32) × (Nat → Nat → Int32) × (Nat → Int32) × (Nat → Int32) × (Nat → Int32)) => (w0_X5_book G qm qd qs qn qk qt qr qx qdb qde qdf qsa qs0 qs0b qs0e qs0f qs1 qs1b qs1e qs1f qs2 qs2b qs2e qs2f qs3 qs3b qs3e qs3f qs4 qs4b qs4e qs4f qs5 qs5b qs5e qs5f db de df dc dp u.1 u.2.1 u.2.2.1 u.2.2.2.1 u.2.2.2.2.1 u.2.2.2.2.2.1 u.2.2.2.2.2.2.1 u.2.2.2.2.2.2.2.1 u.2.2.2.2.2.2.2.2))) (va_A (w0_X5_book G qm qd qs qn qk qt qr qx qdb qde qdf qsa qs0 qs0b qs0e qs0f qs1 qs1b qs1e qs1f qs2 qs2b qs2e qs2f qs3 qs3b qs3e qs3f qs4 qs4b qs4e qs4f qs5 qs5b qs5e qs5f db de df dc dp dk so sn sb se sf sc sp sk) sz)) (vx_X (fun _ => True) (fun E u t => (fun (E : String) (u : Int32 × Int32 × Int32 × (Nat → Nat → Int32) × (Nat → Nat → Int32) × (Nat → Nat → Int32) × (Nat → Int32) × (Nat → Int32) × (Nat → Int32)) => X E u.1 u.2.1 u.2.2.1 u.2.2.2.1 u.2.2.2.2.1 u.2.2.2.2.2.1 u.2.2.2.2.2.2.1 u.2.2.2.2.2.2.2.1 u.2.2.2.2.2.2.2.2) E u ∧ mBk G (va_A (w0_X5_book G qm qd qs qn qk qt qr qx qdb qde qdf qsa qs0 qs0b qs0e qs0f qs1 qs1b qs1e qs1f qs2 qs2b qs2e qs2f qs3 qs3b qs3e qs3f qs4 qs4b qs4e qs4f qs5 qs5b qs5e qs5f db de df dc dp dk so sn sb se sf sc sp sk) sz) (fun (u : Int32 × Int32 × Int32 × (Nat → Nat → Int32) × (Nat → Nat → Int32) × (Nat → Nat → Int32) × (Nat → Int32) × (Nat → Int32) × (Nat → Int32)) => (w0_X5_book G qm qd qs qn qk qt qr qx qdb qde qdf qsa qs0 qs0b qs0e qs0f qs1 qs1b qs1e qs1f qs2 qs2b qs2e qs2f qs3 qs3b qs3e qs3f qs4 qs4b qs4e qs4f qs5 qs5b qs5e qs5f db de df dc dp u.1 u.2.1 u.2.2.1 u.2.2.2.1 u.2.2.2.2.1 u.2.2.2.2.2.1 u.2.2.2.2.2.2.1 u.2.2.2.2.2.2.2.1 u.2.2.2.2.2.2.2.2)) u t) (va_A (w0_X5_book G qm qd qs qn qk qt qr qx qdb qde qdf qsa qs0 qs0b qs0e qs0f qs1 qs1b qs1e qs1f qs2 qs2b qs2e qs2f qs3 qs3b qs3e qs3f qs4 qs4b qs4e qs4f qs5 qs5b qs5e qs5f db de df dc dp dk so sn sb se sf sc sp sk) sz)) 2 12 (va_A (w0_X5_book G qm qd qs qn qk qt qr qx qdb qde qdf qsa qs0 qs0b qs0e qs0f qs1 qs1b qs1e qs1f qs2 qs2b qs2e qs2f qs3 qs3b qs3e qs3f qs4 qs4b qs4e qs4f qs5 qs5b qs5e qs5f db de df dc dp dk so sn sb se sf sc sp sk) sz) := by
  refine mx_i (cc := cX5_book) (maxL := 2) (ret := some .int) (post := (fun (r : Int32) (u : Int32 × Int32 × Int32 × (Nat → Nat → Int32) × (Nat → Nat → Int32) × (Nat → Nat → Int32) × (Nat → Int32) × (Nat → Int32) × (Nat → Int32)) => Q r u.1 u.2.1 u.2.2.1 u.2.2.2.1 u.2.2.2.2.1 u.2.2.2.2.2.1 u.2.2.2.2.2.2.1 u.2.2.2.2.2.2.2.1 u.2.2.2.2.2.2.2.2)) (w1 := (fun (u : Int32 × Int32 × Int32 × (Nat → Nat → Int32) × (Nat → Nat → Int32) × (Nat → Nat → Int32) × (Nat → Int32) × (Nat → Int32) × (Nat → Int32)) => (w0_X5_book G qm qd qs qn qk qt qr qx qdb qde qdf qsa qs0 qs0b qs0e qs0f qs1 qs1b qs1e qs1f qs2 qs2b qs2e qs2f qs3 qs3b qs3e qs3f qs4 qs4b qs4e qs4f qs5 qs5b qs5e qs5f db de df dc dp u.1 u.2.1 u.2.2.1 u.2.2.2.1 u.2.2.2.2.1 u.2.2.2.2.2.1 u.2.2.2.2.2.2.1 u.2.2.2.2.2.2.2.1 u.2.2.2.2.2.2.2.2))) (px := (fun (E : String) (u : Int32 × Int32 × Int32 × (Nat → Nat → Int32) × (Nat → Nat → Int32) × (Nat → Nat → Int32) × (Nat → Int32) × (Nat → Int32) × (Nat → Int32)) => X E u.1 u.2.1 u.2.2.1 u.2.2.2.1 u.2.2.2.2.1 u.2.2.2.2.2.1 u.2.2.2.2.2.2.1 u.2.2.2.2.2.2.2.1 u.2.2.2.2.2.2.2.2)) (by decide) rfl (Nat.le_of_ble_eq_true rfl) ?_ sz
  intro p e s m below meth c A ls H locs hx hb hr hml hown hts hlocks hnt hK hG hP hD hS hA hl
  have hown : s.vm.findClass RX5 = some m.cls := hown
  have hl : lv_has ls 2 [(0, .ref qm), (1, .int a1)] := hl
  unfold wx_X5_book at hw
  refine lv_aload_n hx hb dX5_book_0 rfl (lv_at hl 0 rfl) ?_
  refine lv_iload_n hx hb dX5_book_1 rfl (lv_at hl 1 rfl) ?_
  refine kxR_v (xr_V [] ⟨hx, hb, hml, hown, hts⟩ (cx_X5_requireRehearsal l hst G qm qd qs qn qk qt qr qx qdb qde qdf db de df dc dp dk a1 hw H.size) (cwV 1 hts gX5_book_X5_requireRehearsal rfl rfl rfl (by decide +kernel) ⟨Nat.le_of_ble_eq_true rfl, Nat.le_of_ble_eq_true rfl⟩) hK hG hP hD hS hA [0, 1, 2, 3, 4] rfl rfl 5 0 rfl rfl rfl hl.1 rfl (Nat.le_of_ble_eq_true rfl) dX5_book_2 ⟨Nat.le_of_ble_eq_true rfl, Nat.le_of_ble_eq_true rfl⟩) hP hD hS hA [0, 1, 2, 3, 4] rfl (fun E u ce q9 H locs hw hP hS h1 h2 h3 => kx_out (dk, so, sn, sb, se, sf, sc, sp, sk) hnt hlocks h1 h2 h3 hK hS hP hD hw (Nat.le_of_ble_eq_true rfl) (Nat.le_of_ble_eq_true rfl)) (fun u H locs hw hP hS => ?_)
  try dsimp only at hw
  refine lv_aload_n hx hb dX5_book_5 rfl (lv_at hl 0 rfl) ?_
  refine va_get (D := gD G) (ci := 5) (v := .ref qd) (C := RX5) (T := TX5) (N := 7) hx hb hts k_X5_book_inX5 hown hK hP 0 rfl rfl 0 (by decide) (hts _ k_X5_book_f10) (fun _ h9 => h9) rfl dX5_book_6 ?_
  refine lv_iload_n hx hb dX5_book_9 rfl (lv_at hl 1 rfl) ?_
  refine kcR_i (kr_V [] ⟨hx, hb, hml, hown, hts⟩ (cn_X1_hasBooked l G qd qdb qde qdf db de df dc dp dk a1 hw H.size) (cwV 1 hts gX5_book_X1_hasBooked rfl rfl rfl (by decide +kernel) ⟨Nat.le_of_ble_eq_true rfl, Nat.le_of_ble_eq_true rfl⟩) hK hG hP hD hS hA [1, 2, 3, 4] rfl rfl 1 1 rfl rfl rfl hl.1 rfl (Nat.le_of_ble_eq_true rfl) dX5_book_10 ⟨Nat.le_of_ble_eq_true rfl, Nat.le_of_ble_eq_true rfl⟩) hP hD hS hA [1, 2, 3, 4] rfl (fun r1 u H locs hw hP hS => ?_)
  try dsimp only at hw
  obtain ⟨hz_r1, hw⟩ := hw
  refine lv_if_eq (tgt := 26) hx hb dX5_book_13 (by decide) (fun cd2 => ?_) (fun cd2 => ?_)
  · have hw := hw.1 cd2
    refine lv_aload_n hx hb dX5_book_26 rfl (lv_at hl 0 rfl) ?_
    refine va_get (D := gD G) (ci := 5) (v := .ref qd) (C := RX5) (T := TX5) (N := 7) hx hb hts k_X5_book_inX5 hown hK hP 0 rfl rfl 0 (by decide) (hts _ k_X5_book_f10) (fun _ h9 => h9) rfl dX5_book_27 ?_
    refine lv_iload_n hx hb dX5_book_30 rfl (lv_at hl 1 rfl) ?_
    refine kcR_i (kr_V [] ⟨hx, hb, hml, hown, hts⟩ (cn_X1_conflictsWith l G qd qdb qde qdf db de df dc dp dk a1 hw H.size) (cwV 1 hts gX5_book_X1_conflictsWith rfl rfl rfl (by decide +kernel) ⟨Nat.le_of_ble_eq_true rfl, Nat.le_of_ble_eq_true rfl⟩) hK hG hP hD hS hA [1, 2, 3, 4] rfl rfl 1 1 rfl rfl rfl hl.1 rfl (Nat.le_of_ble_eq_true rfl) dX5_book_31 ⟨Nat.le_of_ble_eq_true rfl, Nat.le_of_ble_eq_true rfl⟩) hP hD hS hA [1, 2, 3, 4] rfl (fun r3 u H locs hw hP hS => ?_)
    try dsimp only at hw
    refine lv_aload_n hx hb dX5_book_34 rfl (lv_at hl 0 rfl) ?_
    refine va_get (D := gD G) (ci := 5) (v := .ref qd) (C := RX5) (T := TX5) (N := 7) hx hb hts k_X5_book_inX5 hown hK hP 0 rfl rfl 0 (by decide) (hts _ k_X5_book_f10) (fun _ h9 => h9) rfl dX5_book_35 ?_
    refine va_get (D := gD G) (ci := 1) (v := .int dk) (C := RX1) (T := TX1) (N := 6) hx hb hts k_X5_book_inX1 hown hK hP 1 rfl rfl 5 (by decide) (hts _ k_X5_book_f128) (fun _ h9 => h9) rfl dX5_book_38 ?_
    refine lv_iand hx hb dX5_book_41 ?_
    refine lv_if_eq (tgt := 55) hx hb dX5_book_42 (by decide) (fun cd4 => ?_) (fun cd4 => ?_)
    · have hw := hw.1 cd4
      refine lv_aload_n hx hb dX5_book_55 rfl (lv_at hl 0 rfl) ?_
      refine va_get (D := gD G) (ci := 5) (v := .ref qs) (C := RX5) (T := TX5) (N := 7) hx hb hts k_X5_book_inX5 hown hK hP 0 rfl rfl 1 (by decide) (hts _ k_X5_book_f19) (fun _ h9 => h9) rfl dX5_book_56 ?_
      refine lv_aload_n hx hb dX5_book_59 rfl (lv_at hl 0 rfl) ?_
      refine va_get (D := gD G) (ci := 5) (v := .ref qd) (C := RX5) (T := TX5) (N := 7) hx hb hts k_X5_book_inX5 hown hK hP 0 rfl rfl 0 (by decide) (hts _ k_X5_book_f10) (fun _ h9 => h9) rfl dX5_book_60 ?_
      refine kc_v (kr_V [] ⟨hx, hb, hml, hown, hts⟩ (cn_X3_save l G qs qsa qs0 qs0b qs0e qs0f qs1 qs1b qs1e qs1f qs2 qs2b qs2e qs2f qs3 qs3b qs3e qs3f qs4 qs4b qs4e qs4f qs5 qs5b qs5e qs5f qd qdb qde qdf so sn sb se sf sc sp sk db de df dc dp dk hw H.size) (cwV 1 hts gX5_book_X3_save rfl rfl rfl (by decide +kernel) ⟨Nat.le_of_ble_eq_true rfl, Nat.le_of_ble_eq_true rfl⟩) hK hG hP hD hS hA [5, 6, 7, 8, 9, 10, 11, 12, 13, 14, 15, 16, 17, 18, 19, 20, 21, 22, 23, 24, 25, 26, 27, 28, 29, 30, 1, 2, 3, 4] rfl rfl 3 5 rfl rfl rfl hl.1 rfl (Nat.le_of_ble_eq_true rfl) dX5_book_63 ⟨Nat.le_of_ble_eq_true rfl, Nat.le_of_ble_eq_true rfl⟩) hP hD hS hA [5, 6, 7, 8, 9, 10, 11, 12, 13, 14, 15, 16, 17, 18, 19, 20, 21, 22, 23, 24, 25, 26, 27, 28, 29, 30, 1, 2, 3, 4] [0] rfl rfl rfl (by decide) (fun u H locs hw hP hD hS => ?_)
      obtain ⟨so_5, sn_6, sb_7, se_8, sf_9, sc_10, sp_11, sk_12⟩ := u
      try dsimp only at hw
      have hP := hP.sub (ws' := (w0_X5_book G qm qd qs qn qk qt qr qx qdb qde qdf qsa qs0 qs0b qs0e qs0f qs1 qs1b qs1e qs1f qs2 qs2b qs2e qs2f qs3 qs3b qs3e qs3f qs4 qs4b qs4e qs4f qs5 qs5b qs5e qs5f db de df dc dp dk so_5 sn_6 sb_7 se_8 sf_9 sc_10 sp_11 sk_12)) [0, 27, 28, 29, 30, 1, 2, 3, 4, 5, 6, 7, 8, 9, 10, 11, 12, 13, 14, 15, 16, 17, 18, 19, 20, 21, 22, 23, 24, 25, 26] rfl
      have hD := hD.sub (ws' := (w0_X5_book G qm qd qs qn qk qt qr qx qdb qde qdf qsa qs0 qs0b qs0e qs0f qs1 qs1b qs1e qs1f qs2 qs2b qs2e qs2f qs3 qs3b qs3e qs3f qs4 qs4b qs4e qs4f qs5 qs5b qs5e qs5f db de df dc dp dk so_5 sn_6 sb_7 se_8 sf_9 sc_10 sp_11 sk_12)) [0, 27, 28, 29, 30, 1, 2, 3, 4, 5, 6, 7, 8, 9, 10, 11, 12, 13, 14, 15, 16, 17, 18, 19, 20, 21, 22, 23, 24, 25, 26] rfl rfl
      refine lv_aload_n hx hb dX5_book_66 rfl (lv_at hl 0 rfl) ?_
      refine va_get (D := gD G) (ci := 5) (v := .ref qd) (C := RX5) (T := TX5) (N := 7) hx hb hts k_X5_book_inX5 hown hK hP 0 rfl rfl 0 (by decide) (hts _ k_X5_book_f10) (fun _ h9 => h9) rfl dX5_book_67 ?_
      refine lv_dup hx hb dX5_book_70 rfl ?_
      refine va_get (D := gD G) (ci := 1) (v := .int dk) (C := RX1) (T := TX1) (N := 6) hx hb hts k_X5_book_inX1 hown hK hP 1 rfl rfl 5 (by decide) (hts _ k_X5_book_f128) (fun _ h9 => h9) rfl dX5_book_71 ?_
      refine lv_iload_n hx hb dX5_book_74 rfl (lv_at hl 1 rfl) ?_
      refine kcR_i (kr_S [.int dk, .ref qd] ⟨hx, hb, hml, hown, hts⟩ (cn_X5_bit l G a1 hw H.size) (va_cwS 1 hts gX5_book_X5_bit rfl rfl rfl (by decide +kernel) ⟨Nat.le_of_ble_eq_true rfl, Nat.le_of_ble_eq_true rfl⟩) hK hG hP hD hS hA [] rfl rfl rfl hl.1 rfl (Nat.le_of_ble_eq_true rfl) dX5_book_75 ⟨Nat.le_of_ble_eq_true rfl, Nat.le_of_ble_eq_true rfl⟩) hP hD hS hA [] rfl (fun r13 u H locs hw hP hS => ?_)
      try dsimp only at hw
      refine lv_ior hx hb dX5_book_78 ?_
      refine va_put (D := gD G) (ci := 1) (v := .int (dk ||| r13)) (ty := .int) (C := RX1) (T := TX1) (N := 6) hx hb hts k_X5_book_inX1 tyX1 tyX1_ok nmX1 hown hK hP hD hS 1 rfl rfl 5 (by decide) (hts _ k_X5_book_f128) (fun _ h9 => h9) rfl (by decide +kernel) rfl rfl (Nat.le_of_ble_eq_true rfl) dX5_book_79 (fun H locs hP hD hS => ?_)
      have hP : va_P (gD G) vwCl (w0_X5_book G qm qd qs qn qk qt qr qx qdb qde qdf qsa qs0 qs0b qs0e qs0f qs1 qs1b qs1e qs1f qs2 qs2b qs2e qs2f qs3 qs3b qs3e qs3f qs4 qs4b qs4e qs4f qs5 qs5b qs5e qs5f db de df dc dp (dk ||| r13) so_5 sn_6 sb_7 se_8 sf_9 sc_10 sp_11 sk_12) H := hP
      have hD : va_D A (w0_X5_book G qm qd qs qn qk qt qr qx qdb qde qdf qsa qs0 qs0b qs0e qs0f qs1 qs1b qs1e qs1f qs2 qs2b qs2e qs2f qs3 qs3b qs3e qs3f qs4 qs4b qs4e qs4f qs5 qs5b qs5e qs5f db de df dc dp (dk ||| r13) so_5 sn_6 sb_7 se_8 sf_9 sc_10 sp_11 sk_12) := hD
      refine lv_aload_n hx hb dX5_book_82 rfl (lv_at hl 0 rfl) ?_
      refine va_get (D := gD G) (ci := 5) (v := .ref qd) (C := RX5) (T := TX5) (N := 7) hx hb hts k_X5_book_inX5 hown hK hP 0 rfl rfl 0 (by decide) (hts _ k_X5_book_f10) (fun _ h9 => h9) rfl dX5_book_83 ?_
      refine lv_aload_n hx hb dX5_book_86 rfl (lv_at hl 0 rfl) ?_
      refine va_get (D := gD G) (ci := 5) (v := .ref qd) (C := RX5) (T := TX5) (N := 7) hx hb hts k_X5_book_inX5 hown hK hP 0 rfl rfl 0 (by decide) (hts _ k_X5_book_f10) (fun _ h9 => h9) rfl dX5_book_87 ?_
      refine va_get (D := gD G) (ci := 1) (v := .int (dk ||| r13)) (C := RX1) (T := TX1) (N := 6) hx hb hts k_X5_book_inX1 hown hK hP 1 rfl rfl 5 (by decide) (hts _ k_X5_book_f128) (fun _ h9 => h9) rfl dX5_book_90 ?_
      refine kcR_i (kr_V [] ⟨hx, hb, hml, hown, hts⟩ (cn_X1_fameOfSet l G qd qdb qde qdf db de df dc dp (dk ||| r13) (dk ||| r13) hw H.size) (cwV 1 hts gX5_book_X1_fameOfSet rfl rfl rfl (by decide +kernel) ⟨Nat.le_of_ble_eq_true rfl, Nat.le_of_ble_eq_true rfl⟩) hK hG hP hD hS hA [1, 2, 3, 4] rfl rfl 1 1 rfl rfl rfl hl.1 rfl (Nat.le_of_ble_eq_true rfl) dX5_book_93 ⟨Nat.le_of_ble_eq_true rfl, Nat.le_of_ble_eq_true rfl⟩) hP hD hS hA [1, 2, 3, 4] rfl (fun r14 u H locs hw hP hS => ?_)
      try dsimp only at hw
      exact fin_x (Nat.le_of_ble_eq_true rfl) (Nat.le_of_ble_eq_true rfl) (fin_i ((dk ||| r13), so_5, sn_6, sb_7, se_8, sf_9, sc_10, sp_11, sk_12) hx hb hr hlocks hK hS hP hD hw dX5_book_96)
    · have hw := hw.2 cd4
      exact kth (nL := 2) "in conflict with a booked rehearsal" (dk, so, sn, sb, se, sf, sc, sp, sk) hx hb hst hown hts hG hnt hlocks hml hl.1 hK hS hP hD hw ⟨by decide +kernel, by decide +kernel⟩ (by decide +kernel) k_X5_book_l93 k_X5_book_i93 k_X5_book_a97 tnb_97 tgd_97 dX5_book_45 dX5_book_48 dX5_book_54 ⟨dX5_book_49, dX5_book_51⟩ ⟨by decide, by decide, by decide, by decide⟩ (Nat.le_of_ble_eq_true rfl) (Nat.le_of_ble_eq_true rfl)
  · have hw := hw.2 cd2
    exact kth (nL := 2) "already booked" (dk, so, sn, sb, se, sf, sc, sp, sk) hx hb hst hown hts hG hnt hlocks hml hl.1 hK hS hP hD hw ⟨by decide +kernel, by decide +kernel⟩ (by decide +kernel) k_X5_book_l93 k_X5_book_i93 k_X5_book_a97 tnb_97 tgd_97 dX5_book_16 dX5_book_19 dX5_book_25 ⟨dX5_book_20, dX5_book_22⟩ ⟨by decide, by decide, by decide, by decide⟩ (Nat.le_of_ble_eq_true rfl) (Nat.le_of_ble_eq_true rfl)
