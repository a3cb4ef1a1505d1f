abbrev w0_X5_cancel (G : mG) (qm : Nat) (qd : Nat) (qs : Nat) (qn : Nat) (qk : Nat) (qt : Nat) (qr : Nat) (qx : Nat) (qdb : Nat) (qde : Nat) (qdf : Nat) (qsa : Nat) (qs0 : Nat) (qs0b : Nat) (qs0e : Nat) (qs0f : Nat) (qs1 : Nat) (qs1b : Nat) (qs1e : Nat) (qs1f : Nat) (qs2 : Nat) (qs2b : Nat) (qs2e : Nat) (qs2f : Nat) (qs3 : Nat) (qs3b : Nat) (qs3e : Nat) (qs3f : Nat) (qs4 : Nat) (qs4b : Nat) (qs4e : Nat) (qs4f : Nat) (qs5 : Nat) (qs5b : Nat) (qs5e : Nat) (qs5f : Nat) (db : Nat → Int32) (de : Nat → Int32) (df : Nat → Int32) (dc : Int32) (dp : Int32) (dk : Int32) (so : Int32) (sn : Int32) (sb : Nat → Nat → Int32) (se : Nat → Nat → Int32) (sf : Nat → Nat → Int32) (sc : Nat → Int32) (sp : Nat → Int32) (sk : Nat → Int32) : va_W := [(qm, .inr (5, [.ref qd, .ref qs, .ref qn, .ref qk, .ref qt, .ref qr, .ref qx])), (qd, .inr (1, [.ref qdb, .ref qde, .ref qdf, .int dc, .int dp, .int dk])), (qdb, .inl (gI G, (14, .inl db))), (qde, .inl (gI G, (14, .inl de))), (qdf, .inl (gI G, (14, .inl df))), (qs, .inr (3, [.ref qsa, .int so, .int sn])), (qsa, .inl (gQ G, (6, .inr (.inr (.inr (.inr (g6 qs0 qs1 qs2 qs3 qs4 qs5))))))), (qs0, .inr (1, [.ref qs0b, .ref qs0e, .ref qs0f, .int (sc 0), .int (sp 0), .int (sk 0)])), (qs0b, .inl (gI G, (14, .inl (sb 0)))), (qs0e, .inl (gI G, (14, .inl (se 0)))), (qs0f, .inl (gI G, (14, .inl (sf 0)))), (qs1, .inr (1, [.ref qs1b, .ref qs1e, .ref qs1f, .int (sc 1), .int (sp 1), .int (sk 1)])), (qs1b, .inl (gI G, (14, .inl (sb 1)))), (qs1e, .inl (gI G, (14, .inl (se 1)))), (qs1f, .inl (gI G, (14, .inl (sf 1)))), (qs2, .inr (1, [.ref qs2b, .ref qs2e, .ref qs2f, .int (sc 2), .int (sp 2), .int (sk 2)])), (qs2b, .inl (gI G, (14, .inl (sb 2)))), (qs2e, .inl (gI G, (14, .inl (se 2)))), (qs2f, .inl (gI G, (14, .inl (sf 2)))), (qs3, .inr (1, [.ref qs3b, .ref qs3e, .ref qs3f, .int (sc 3), .int (sp 3), .int (sk 3)])), (qs3b, .inl (gI G, (14, .inl (sb 3)))), (qs3e, .inl (gI G, (14, .inl (se 3)))), (qs3f, .inl (gI G, (14, .inl (sf 3)))), (qs4, .inr (1, [.ref qs4b, .ref qs4e, .ref qs4f, .int (sc 4), .int (sp 4), .int (sk 4)])), (qs4b, .inl (gI G, (14, .inl (sb 4)))), (qs4e, .inl (gI G, (14, .inl (se 4)))), (qs4f, .inl (gI G, (14, .inl (sf 4)))), (qs5, .inr (1, [.ref qs5b, .ref qs5e, .ref qs5f, .int (sc 5), .int (sp 5), .int (sk 5)])), (qs5b, .inl (gI G, (14, .inl (sb 5)))), (qs5e, .inl (gI G, (14, .inl (se 5)))), (qs5f, .inl (gI G, (14, .inl (sf 5))))]
set_option maxRecDepth 100000 in
theorem k_X5_cancel_inX5 : ∀ w ∈ u_ws RX5 TX5 7, w ∈ wsX5_cancel := by decide +kernel
set_option maxRecDepth 100000 in
theorem k_X5_cancel_f10 : Cond.fieldLink RX5 10 "RehearsalRoom" "day" "LRehearsalRoom$Day;" ∈ wsX5_cancel := by decide +kernel
set_option maxRecDepth 100000 in
theorem k_X5_cancel_f19 : Cond.fieldLink RX5 19 "RehearsalRoom" "saved" "LRehearsalRoom$SavedDays;" ∈ wsX5_cancel := by decide +kernel
set_option maxRecDepth 100000 in
theorem k_X5_cancel_inX1 : ∀ w ∈ u_ws RX1 TX1 6, w ∈ wsX5_cancel := by decide +kernel
set_option maxRecDepth 100000 in
theorem k_X5_cancel_f128 : Cond.fieldLink RX5 128 "RehearsalRoom$Day" "bookings" "I" ∈ wsX5_cancel := by decide +kernel
set_option maxRecDepth 100000 in
theorem k_X5_cancel_l93 : Cond.classLink RX5 93 "java/lang/IllegalStateException" ∈ wsX5_cancel := by decide +kernel
set_option maxRecDepth 100000 in
theorem k_X5_cancel_i93 : Cond.initialized "java/lang/IllegalStateException" ∈ wsX5_cancel := by decide +kernel
set_option maxRecDepth 100000 in
theorem k_X5_cancel_a97 : ∀ w ∈ (vx_atS RX5 97 "java/lang/IllegalStateException" gSup).filter goodWord, w ∈ wsX5_cancel := by decide +kernel
set_option maxHeartbeats 8000000 in
set_option maxRecDepth 100000 in
theorem cx_X5_cancel (l : Launch) (hst : l.stackTraces = false) (G : mG) (qm : Nat) (qd : Nat) (qs : Nat) (qn : Nat) (qk : Nat) (qt : Nat) (qr : Nat) (qx : Nat) (qdb : Nat) (qde : Nat) (qdf : Nat) (qsa : Nat) (qs0 : Nat) (qs0b : Nat) (qs0e : Nat) (qs0f : Nat) (qs1 : Nat) (qs1b : Nat) (qs1e : Nat) (qs1f : Nat) (qs2 : Nat) (qs2b : Nat) (qs2e : Nat) (qs2f : Nat) (qs3 : Nat) (qs3b : Nat) (qs3e : Nat) (qs3f : Nat) (qs4 : Nat) (qs4b : Nat) (qs4e : Nat) (qs4f : Nat) (qs5 : Nat) (qs5b : Nat) (qs5e : Nat) (qs5f : Nat) (db : Nat → Int32) (de : Nat → Int32) (df : Nat → Int32) (dc : Int32) (dp : Int32) (dk : Int32) (so : Int32) (sn : Int32) (sb : Nat → Nat → Int32) (se : Nat → Nat → Int32) (sf : Nat → Nat → Int32) (sc : Nat → Int32) (sp : Nat → Int32) (sk : Nat → Int32) (a1 : Int32) {Q : Int32 → Int32 → Int32 → Int32 → (Nat → Nat → Int32) → (Nat → Nat → Int32) → (Nat → Nat → Int32) → (Nat → Int32) → (Nat → Int32) → (Nat → Int32) → Prop} {X : String → Int32 → Int32 → Int32 → (Nat → Nat → Int32) → (Nat → Nat → Int32) → (Nat → Nat → Int32) → (Nat → Int32) → (Nat → Int32) → (Nat → Int32) → Prop} (hw : wx_X5_cancel db de df dc dp dk so sn sb se sf sc sp sk a1 Q X) (sz : Nat) :
    vx_Met l yX5_cancel wsX5_cancel ({ frames := 7, cells := 2, slots := 12, locals := 111 } : Room) (va_Pc [.ref qm, .int a1] (mPre G (w0_X5_cancel G qm qd qs qn qk qt qr qx qdb qde qdf qsa qs0 qs0b qs0e qs0f qs1 qs1b qs1e qs1f qs2 qs2b qs2e qs2f qs3 qs3b qs3e qs3f qs4 qs4b qs4e qs4f qs5 qs5b qs5e qs5f db de df dc dp dk so sn sb se sf sc sp sk) sz)) (va_Qi (fun (r : Int32) (u : Int32 × Int32 × Int32 × (Nat → Nat → Int32) × (Nat → Nat → Int32) × (Nat → Nat → Int32) × (Nat → Int32) × (Nat → Int32) × (Nat → Int32)) => Q r u.1 u.2.1 u.2.2.1 u.2.2.2.1 u.2.2.2.2.1 u.2.2.2.2.2.1 u.2.2.2.2.2.2.1 u.2.2.2.2.2.2.2.1 u.2.2.2.2.2.2.2.2) (mBk G (va_A (w0_X5_cancel G qm qd qs qn qk qt qr qx qdb qde qdf qsa qs0 qs0b qs0e qs0f qs1 qs1b qs1e qs1f qs2 qs2b qs2e qs2f qs3 qs3b qs3e qs3f qs4 qs4b qs4e qs4f qs5 qs5b qs5e qs5f db de df dc dp dk so sn sb se sf sc sp sk) sz) (fun (u : Int32 × Int32 × Int32 × (Nat → Nat → Int32) × (Nat → Nat → Int32) × (Nat → Nat → Int32) × (Nat → Int32) × (Nat → Int32) × (Nat → Int32)) => (w0_X5_cancel G qm qd qs qn qk qt qr qx qdb qde qdf qsa qs0 qs0b qs0e qs0f qs1 qs1b qs1e qs1f qs2 qs2b qs2e qs2f qs3 qs3b qs3e qs3f qs4 qs4b qs4e qs4f qs5 qs5b qs5e qs5f db de df dc dp u.1 u.2.1 u.2.2.1 u.2.2.2.1 u.2.2.2.2.1 u.2.2.2.2.2.1 u.2.2.2.2.2.2.1 u.2.2.2.2.2.2.2.1 u.2.2.2.2.2.2.2.2))) (va_A (w0_X5_cancel G qm qd qs qn qk qt qr qx qdb qde qdf qsa qs0 qs0b qs0e qs0f qs1 qs1b qs1e qs1f qs2 qs2b qs2e qs2f qs3 qs3b qs3e qs3f qs4 qs4b qs4e qs4f qs5 qs5b qs5e qs5f db de df dc dp dk so sn sb se sf sc sp sk) sz)) (vx_X (fun _ => True) (fun E u t => (fun (E : String) (u : Int32 × Int32 × Int32 × (Nat → Nat → Int32) × (Nat → Nat → Int32) × (Nat → Nat → Int32) × (Nat → Int32) × (Nat → Int32) × (Nat → Int32)) => X E u.1 u.2.1 u.2.2.1 u.2.2.2.1 u.2.2.2.2.1 u.2.2.2.2.2.1 u.2.2.2.2.2.2.1 u.2.2.2.2.2.2.2.1 u.2.2.2.2.2.2.2.2) E u ∧ mBk G (va_A (w0_X5_cancel G qm qd qs qn qk qt qr qx qdb qde qdf qsa qs0 qs0b qs0e qs0f qs1 qs1b qs1e qs1f qs2 qs2b qs2e qs2f qs3 qs3b qs3e qs3f qs4 qs4b qs4e qs4f qs5 qs5b qs5e qs5f db de df dc dp dk so sn sb se sf sc sp sk) sz) (fun (u : Int32 × Int32 × Int32 × (Nat → Nat → Int32) × (Nat → Nat → Int32) × (Nat → Nat → Int32) × (Nat → Int32) × (Nat → Int32) × (Nat → Int32)) => (w0_X5_cancel G qm qd qs qn qk qt qr qx qdb qde qdf qsa qs0 qs0b qs0e qs0f qs1 qs1b qs1e qs1f qs2 qs2b qs2e qs2f qs3 qs3b qs3e qs3f qs4 qs4b qs4e qs4f qs5 qs5b qs5e qs5f db de df dc dp u.1 u.2.1 u.2.2.1 u.2.2.2.1 u.2.2.2.2.1 u.2.2.2.2.2.1 u.2.2.2.2.2.2.1 u.2.2.2.2.2.2.2.1 u.2.2.2.2.2.2.2.2)) u t) (va_A (w0_X5_cancel G qm qd qs qn qk qt qr qx qdb qde qdf qsa qs0 qs0b qs0e qs0f qs1 qs1b qs1e qs1f qs2 qs2b qs2e qs2f qs3 qs3b qs3e qs3f qs4 qs4b qs4e qs4f qs5 qs5b qs5e qs5f db de df dc dp dk so sn sb se sf sc sp sk) sz)) 2 12 (va_A (w0_X5_cancel G qm qd qs qn qk qt qr qx qdb qde qdf qsa qs0 qs0b qs0e qs0f qs1 qs1b qs1e qs1f qs2 qs2b qs2e qs2f qs3 qs3b qs3e qs3f qs4 qs4b qs4e qs4f qs5 qs5b qs5e qs5f db de df dc dp dk so sn sb se sf sc sp sk) sz) := by
  refine mx_i (cc := cX5_cancel) (maxL := 2) (ret := some .int) (post := (fun (r : Int32) (u : Int32 × Int32 × Int32 × (Nat → Nat → Int32) × (Nat → Nat → Int32) × (Nat → Nat → Int32) × (Nat → Int32) × (Nat → Int32) × (Nat → Int32)) => Q r u.1 u.2.1 u.2.2.1 u.2.2.2.1 u.2.2.2.2.1 u.2.2.2.2.2.1 u.2.2.2.2.2.2.1 u.2.2.2.2.2.2.2.1 u.2.2.2.2.2.2.2.2)) (w1 := (fun (u : Int32 × Int32 × Int32 × (Nat → Nat → Int32) × (Nat → Nat → Int32) × (Nat → Nat → Int32) × (Nat → Int32) × (Nat → Int32) × (Nat → Int32)) => (w0_X5_cancel G qm qd qs qn qk qt qr qx qdb qde qdf qsa qs0 qs0b qs0e qs0f qs1 qs1b qs1e qs1f qs2 qs2b qs2e qs2f qs3 qs3b qs3e qs3f qs4 qs4b qs4e qs4f qs5 qs5b qs5e qs5f db de df dc dp u.1 u.2.1 u.2.2.1 u.2.2.2.1 u.2.2.2.2.1 u.2.2.2.2.2.1 u.2.2.2.2.2.2.1 u.2.2.2.2.2.2.2.1 u.2.2.2.2.2.2.2.2))) (px := (fun (E : String) (u : Int32 × Int32 × Int32 × (Nat → Nat → Int32) × (Nat → Nat → Int32) × (Nat → Nat → Int32) × (Nat → Int32) × (Nat → Int32) × (Nat → Int32)) => X E u.1 u.2.1 u.2.2.1 u.2.2.2.1 u.2.2.2.2.1 u.2.2.2.2.2.1 u.2.2.2.2.2.2.1 u.2.2.2.2.2.2.2.1 u.2.2.2.2.2.2.2.2)) (by decide) rfl (Nat.le_of_ble_eq_true rfl) ?_ sz
  intro p e s m below meth c A ls H locs hx hb hr hml hown hts hlocks hnt hK hG hP hD hS hA hl
  have hown : s.vm.findClass RX5 = some m.cls := hown
  have hl : lv_has ls 2 [(0, .ref qm), (1, .int a1)] := hl
  unfold wx_X5_cancel at hw
  refine lv_aload_n hx hb dX5_cancel_0 rfl (lv_at hl 0 rfl) ?_
  refine lv_iload_n hx hb dX5_cancel_1 rfl (lv_at hl 1 rfl) ?_
  refine kxR_v (xr_V [] ⟨hx, hb, hml, hown, hts⟩ (cx_X5_requireRehearsal l hst G qm qd qs qn qk qt qr qx qdb qde qdf db de df dc dp dk a1 hw H.size) (cwV 1 hts gX5_cancel_X5_requireRehearsal rfl rfl rfl (by decide +kernel) ⟨Nat.le_of_ble_eq_true rfl, Nat.le_of_ble_eq_true rfl⟩) hK hG hP hD hS hA [0, 1, 2, 3, 4] rfl rfl 5 0 rfl rfl rfl hl.1 rfl (Nat.le_of_ble_eq_true rfl) dX5_cancel_2 ⟨Nat.le_of_ble_eq_true rfl, Nat.le_of_ble_eq_true rfl⟩) hP hD hS hA [0, 1, 2, 3, 4] rfl (fun E u ce q9 H locs hw hP hS h1 h2 h3 => kx_out (dk, so, sn, sb, se, sf, sc, sp, sk) hnt hlocks h1 h2 h3 hK hS hP hD hw (Nat.le_of_ble_eq_true rfl) (Nat.le_of_ble_eq_true rfl)) (fun u H locs hw hP hS => ?_)
  try dsimp only at hw
  refine lv_aload_n hx hb dX5_cancel_5 rfl (lv_at hl 0 rfl) ?_
  refine va_get (D := gD G) (ci := 5) (v := .ref qd) (C := RX5) (T := TX5) (N := 7) hx hb hts k_X5_cancel_inX5 hown hK hP 0 rfl rfl 0 (by decide) (hts _ k_X5_cancel_f10) (fun _ h9 => h9) rfl dX5_cancel_6 ?_
  refine lv_iload_n hx hb dX5_cancel_9 rfl (lv_at hl 1 rfl) ?_
  refine kcR_i (kr_V [] ⟨hx, hb, hml, hown, hts⟩ (cn_X1_hasBooked l G qd qdb qde qdf db de df dc dp dk a1 hw H.size) (cwV 1 hts gX5_cancel_X1_hasBooked rfl rfl rfl (by decide +kernel) ⟨Nat.le_of_ble_eq_true rfl, Nat.le_of_ble_eq_true rfl⟩) hK hG hP hD hS hA [1, 2, 3, 4] rfl rfl 1 1 rfl rfl rfl hl.1 rfl (Nat.le_of_ble_eq_true rfl) dX5_cancel_10 ⟨Nat.le_of_ble_eq_true rfl, Nat.le_of_ble_eq_true rfl⟩) hP hD hS hA [1, 2, 3, 4] rfl (fun r1 u H locs hw hP hS => ?_)
  try dsimp only at hw
  obtain ⟨hz_r1, hw⟩ := hw
  refine lv_if_ne (tgt := 26) hx hb dX5_cancel_13 (by decide) (fun cd2 => ?_) (fun cd2 => ?_)
  · have hw := hw.1 cd2
    refine lv_aload_n hx hb dX5_cancel_26 rfl (lv_at hl 0 rfl) ?_
    refine va_get (D := gD G) (ci := 5) (v := .ref qs) (C := RX5) (T := TX5) (N := 7) hx hb hts k_X5_cancel_inX5 hown hK hP 0 rfl rfl 1 (by decide) (hts _ k_X5_cancel_f19) (fun _ h9 => h9) rfl dX5_cancel_27 ?_
    refine lv_aload_n hx hb dX5_cancel_30 rfl (lv_at hl 0 rfl) ?_
    refine va_get (D := gD G) (ci := 5) (v := .ref qd) (C := RX5) (T := TX5) (N := 7) hx hb hts k_X5_cancel_inX5 hown hK hP 0 rfl rfl 0 (by decide) (hts _ k_X5_cancel_f10) (fun _ h9 => h9) rfl dX5_cancel_31 ?_
    refine kc_v (kr_V [] ⟨hx, hb, hml, hown, hts⟩ (cn_X3_save l G qs qsa qs0 qs0b qs0e qs0f qs1 qs1b qs1e qs1f qs2 qs2b qs2e qs2f qs3 qs3b qs3e qs3f qs4 qs4b qs4e qs4f qs5 qs5b qs5e qs5f qd qdb qde qdf so sn sb se sf sc sp sk db de df dc dp dk hw H.size) (cwV 1 hts gX5_cancel_X3_save rfl rfl rfl (by decide +kernel) ⟨Nat.le_of_ble_eq_true rfl, Nat.le_of_ble_eq_true rfl⟩) hK hG hP hD hS hA [5, 6, 7, 8, 9, 10, 11, 12, 13, 14, 15, 16, 17, 18, 19, 20, 21, 22, 23, 24, 25, 26, 27, 28, 29, 30, 1, 2, 3, 4] rfl rfl 3 5 rfl rfl rfl hl.1 rfl (Nat.le_of_ble_eq_true rfl) dX5_cancel_34 ⟨Nat.le_of_ble_eq_true rfl, Nat.le_of_ble_eq_true rfl⟩) hP hD hS hA [5, 6, 7, 8, 9, 10, 11, 12, 13, 14, 15, 16, 17, 18, 19, 20, 21, 22, 23, 24, 25, 26, 27, 28, 29, 30, 1, 2, 3, 4] [0] rfl rfl rfl (by decide) (fun u H locs hw hP hD hS => ?_)
    obtain ⟨so_3, sn_4, sb_5, se_6, sf_7, sc_8, sp_9, sk_10⟩ := u
    try dsimp only at hw
    have hP := hP.sub (ws' := (w0_X5_cancel G qm qd qs qn qk qt qr qx qdb qde qdf qsa qs0 qs0b qs0e qs0f qs1 qs1b qs1e qs1f qs2 qs2b qs2e qs2f qs3 qs3b qs3e qs3f qs4 qs4b qs4e qs4f qs5 qs5b qs5e qs5f db de df dc dp dk so_3 sn_4 sb_5 se_6 sf_7 sc_8 sp_9 sk_10)) [0, 27, 28, 29, 30, 1, 2, 3, 4, 5, 6, 7, 8, 9, 10, 11, 12, 13, 14, 15, 16, 17, 18, 19, 20, 21, 22, 23, 24, 25, 26] rfl
    have hD := hD.sub (ws' := (w0_X5_cancel G qm qd qs qn qk qt qr qx qdb qde qdf qsa qs0 qs0b qs0e qs0f qs1 qs1b qs1e qs1f qs2 qs2b qs2e qs2f qs3 qs3b qs3e qs3f qs4 qs4b qs4e qs4f qs5 qs5b qs5e qs5f db de df dc dp dk so_3 sn_4 sb_5 se_6 sf_7 sc_8 sp_9 sk_10)) [0, 27, 28, 29, 30, 1, 2, 3, 4, 5, 6, 7, 8, 9, 10, 11, 12, 13, 14, 15, 16, 17, 18, 19, 20, 21, 22, 23, 24, 25, 26] rfl rfl
    refine lv_aload_n hx hb dX5_cancel_37 rfl (lv_at hl 0 rfl) ?_
    refine va_get (D := gD G) (ci := 5) (v := .ref qd) (C := RX5) (T := TX5) (N := 7) hx hb hts k_X5_cancel_inX5 hown hK hP 0 rfl rfl 0 (by decide) (hts _ k_X5_cancel_f10) (fun _ h9 => h9) rfl dX5_cancel_38 ?_
    refine lv_dup hx hb dX5_cancel_41 rfl ?_
    refine va_get (D := gD G) (ci := 1) (v := .int dk) (C := RX1) (T := TX1) (N := 6) hx hb hts k_X5_cancel_inX1 hown hK hP 1 rfl rfl 5 (by decide) (hts _ k_X5_cancel_f128) (fun _ h9 => h9) rfl dX5_cancel_42 ?_
    refine lv_iload_n hx hb dX5_cancel_45 rfl (lv_at hl 1 rfl) ?_
    refine kcR_i (kr_S [.int dk, .ref qd] ⟨hx, hb, hml, hown, hts⟩ (cn_X5_bit l G a1 hw H.size) (va_cwS 1 hts gX5_cancel_X5_bit rfl rfl rfl (by decide +kernel) ⟨Nat.le_of_ble_eq_true rfl, Nat.le_of_ble_eq_true rfl⟩) hK hG hP hD hS hA [] rfl rfl rfl hl.1 rfl (Nat.le_of_ble_eq_true rfl) dX5_cancel_46 ⟨Nat.le_of_ble_eq_true rfl, Nat.le_of_ble_eq_true rfl⟩) hP hD hS hA [] rfl (fun r11 u H locs hw hP hS => ?_)
    try dsimp only at hw
    refine lv_iconst (v := -1) hx hb dX5_cancel_49 (by decide) ?_
    refine lv_ixor hx hb dX5_cancel_50 ?_
    refine lv_iand hx hb dX5_cancel_51 ?_
    refine va_put (D := gD G) (ci := 1) (v := .int (dk &&& (r11 ^^^ (-1 : Int32)))) (ty := .int) (C := RX1) (T := TX1) (N := 6) hx hb hts k_X5_cancel_inX1 tyX1 tyX1_ok nmX1 hown hK hP hD hS 1 rfl rfl 5 (by decide) (hts _ k_X5_cancel_f128) (fun _ h9 => h9) rfl (by decide +kernel) rfl rfl (Nat.le_of_ble_eq_true rfl) dX5_cancel_52 (fun H locs hP hD hS => ?_)
    have hP : va_P (gD G) vwCl (w0_X5_cancel G qm qd qs qn qk qt qr qx qdb qde qdf qsa qs0 qs0b qs0e qs0f qs1 qs1b qs1e qs1f qs2 qs2b qs2e qs2f qs3 qs3b qs3e qs3f qs4 qs4b qs4e qs4f qs5 qs5b qs5e qs5f db de df dc dp (dk &&& (r11 ^^^ (-1 : Int32))) so_3 sn_4 sb_5 se_6 sf_7 sc_8 sp_9 sk_10) H := hP
    have hD : va_D A (w0_X5_cancel G qm qd qs qn qk qt qr qx qdb qde qdf qsa qs0 qs0b qs0e qs0f qs1 qs1b qs1e qs1f qs2 qs2b qs2e qs2f qs3 qs3b qs3e qs3f qs4 qs4b qs4e qs4f qs5 qs5b qs5e qs5f db de df dc dp (dk &&& (r11 ^^^ (-1 : Int32))) so_3 sn_4 sb_5 se_6 sf_7 sc_8 sp_9 sk_10) := hD
    refine lv_aload_n hx hb dX5_cancel_55 rfl (lv_at hl 0 rfl) ?_
    refine va_get (D := gD G) (ci := 5) (v := .ref qd) (C := RX5) (T := TX5) (N := 7) hx hb hts k_X5_cancel_inX5 hown hK hP 0 rfl rfl 0 (by decide) (hts _ k_X5_cancel_f10) (fun _ h9 => h9) rfl dX5_cancel_56 ?_
    refine lv_aload_n hx hb dX5_cancel_59 rfl (lv_at hl 0 rfl) ?_
    refine va_get (D := gD G) (ci := 5) (v := .ref qd) (C := RX5) (T := TX5) (N := 7) hx hb hts k_X5_cancel_inX5 hown hK hP 0 rfl rfl 0 (by decide) (hts _ k_X5_cancel_f10) (fun _ h9 => h9) rfl dX5_cancel_60 ?_
    refine va_get (D := gD G) (ci := 1) (v := .int (dk &&& (r11 ^^^ (-1 : Int32)))) (C := RX1) (T := TX1) (N := 6) hx hb hts k_X5_cancel_inX1 hown hK hP 1 rfl rfl 5 (by decide) (hts _ k_X5_cancel_f128) (fun _ h9 => h9) rfl dX5_cancel_63 ?_
    refine kcR_i (kr_V [] ⟨hx, hb, hml, hown, hts⟩ (cn_X1_fameOfSet l G qd qdb qde qdf db de df dc dp (dk &&& (r11 ^^^ (-1 : Int32))) (dk &&& (r11 ^^^ (-1 : Int32))) hw H.size) (cwV 1 hts gX5_cancel_X1_fameOfSet rfl rfl rfl (by decide +kernel) ⟨Nat.le_of_ble_eq_true rfl, Nat.le_of_ble_eq_true rfl⟩) hK hG hP hD hS hA [1, 2, 3, 4] rfl rfl 1 1 rfl rfl rfl hl.1 rfl (Nat.le_of_ble_eq_true rfl) dX5_cancel_66 ⟨Nat.le_of_ble_eq_true rfl, Nat.le_of_ble_eq_true rfl⟩) hP hD hS hA [1, 2, 3, 4] rfl (fun r12 u H locs hw hP hS => ?_)
    try dsimp only at hw
    exact fin_x (Nat.le_of_ble_eq_true rfl) (Nat.le_of_ble_eq_true rfl) (fin_i ((dk &&& (r11 ^^^ (-1 : Int32))), so_3, sn_4, sb_5, se_6, sf_7, sc_8, sp_9, sk_10) hx hb hr hlocks hK hS hP hD hw dX5_cancel_69)
  · have hw := hw.2 cd2
    exact kth (nL := 2) "not booked" (dk, so, sn, sb, se, sf, sc, sp, sk) hx hb hst hown hts hG hnt hlocks hml hl.1 hK hS hP hD hw ⟨by decide +kernel, by decide +kernel⟩ (by decide +kernel) k_X5_cancel_l93 k_X5_cancel_i93 k_X5_cancel_a97 tnb_97 tgd_97 dX5_cancel_16 dX5_cancel_19 dX5_cancel_25 ⟨dX5_cancel_20, dX5_cancel_22⟩ ⟨by decide, by decide, by decide, by decide⟩ (Nat.le_of_ble_eq_true rfl) (Nat.le_of_ble_eq_true rfl)

abbrev w0_J6_bitCount_0f7a4 (G : mG) : va_W := []
set_option maxRecDepth 100000 in
theorem k_J6_bitCount_0f7a4_c265 : Cond.constant RJ6 265 (1431655765) ∈ wsJ6_bitCount_0f7a4 := by decide +kernel
set_option maxRecDepth 100000 in
theorem k_J6_bitCount_0f7a4_c266 : Cond.constant RJ6 266 (858993459) ∈ wsJ6_bitCount_0f7a4 := by decide +kernel
set_option maxRecDepth 100000 in
theorem k_J6_bitCount_0f7a4_c267 : Cond.constant RJ6 267 (252645135) ∈ wsJ6_bitCount_0f7a4 := by decide +kernel
set_option maxHeartbeats 8000000 in
set_option maxRecDepth 100000 in
theorem cn_J6_bitCount_0f7a4 (l : Launch) (G : mG) (a0 : Int32) {Q : Int32 → Prop} (hw : wn_J6_bitCount_0f7a4 a0 Q) (sz : Nat) :
    Met l yJ6_bitCount_0f7a4 wsJ6_bitCount_0f7a4 ({ frames := 0, cells := 0, slots := 0, locals := 0 } : Room) (va_Pc [.int a0] (mPre G (w0_J6_bitCount_0f7a4 G) sz)) (va_Qi (fun (r : Int32) (u : Unit) => Q r) (mBk G (va_A (w0_J6_bitCount_0f7a4 G) sz) (fun (u : Unit) => (w0_J6_bitCount_0f7a4 G))) (va_A (w0_J6_bitCount_0f7a4 G) sz)) 0 0 (va_A (w0_J6_bitCount_0f7a4 G) sz) := by
  refine ms_i (cc := cJ6_bitCount_0f7a4) (maxL := 1) (ret := some .int) (post := (fun (r : Int32) (u : Unit) => Q r)) (w1 := (fun (u : Unit) => (w0_J6_bitCount_0f7a4 G))) (by decide) rfl (Nat.le_of_ble_eq_true rfl) ?_ sz
  intro p e s m below meth c A ls H locs hx hb hr hml hown hts hlocks hK hG hP hD hS hA hl
  have hown : s.vm.findClass RJ6 = some m.cls := hown
  have hl : lv_has ls 1 [(0, .int a0)] := hl
  unfold wn_J6_bitCount_0f7a4 at hw
  refine lv_iload_n hx hb dJ6_bitCount_0f7a4_0 rfl (lv_at hl 0 rfl) ?_
  refine lv_iload_n hx hb dJ6_bitCount_0f7a4_1 rfl (lv_at hl 0 rfl) ?_
  refine lv_iconst (v := 1) hx hb dJ6_bitCount_0f7a4_2 (by decide) ?_
  refine lv_iushr hx hb dJ6_bitCount_0f7a4_3 rfl ?_
  refine lv_ldcw (v := 1431655765) hx hb hown (hts _ k_J6_bitCount_0f7a4_c265) dJ6_bitCount_0f7a4_4 ?_
  refine lv_iand hx hb dJ6_bitCount_0f7a4_7 ?_
  refine lv_isub hx hb dJ6_bitCount_0f7a4_8 ?_
  refine lv_topi (fun v1 ev1 => ?_)
  have hw := hw v1 ev1
  refine lv_istore_n (lv' := [(0, .int v1)]) hx hb dJ6_bitCount_0f7a4_9 rfl hl (by decide) rfl (fun ls hl => ?_)
  refine lv_iload_n hx hb dJ6_bitCount_0f7a4_10 rfl (lv_at hl 0 rfl) ?_
  refine lv_ldcw (v := 858993459) hx hb hown (hts _ k_J6_bitCount_0f7a4_c266) dJ6_bitCount_0f7a4_11 ?_
  refine lv_iand hx hb dJ6_bitCount_0f7a4_14 ?_
  refine lv_iload_n hx hb dJ6_bitCount_0f7a4_15 rfl (lv_at hl 0 rfl) ?_
  refine lv_iconst (v := 2) hx hb dJ6_bitCount_0f7a4_16 (by decide) ?_
  refine lv_iushr hx hb dJ6_bitCount_0f7a4_17 rfl ?_
  refine lv_ldcw (v := 858993459) hx hb hown (hts _ k_J6_bitCount_0f7a4_c266) dJ6_bitCount_0f7a4_18 ?_
  refine lv_iand hx hb dJ6_bitCount_0f7a4_21 ?_
  refine lv_iadd hx hb dJ6_bitCount_0f7a4_22 ?_
  refine lv_topi (fun v2 ev2 => ?_)
  have hw := hw v2 ev2
  refine lv_istore_n (lv' := [(0, .int v2)]) hx hb dJ6_bitCount_0f7a4_23 rfl hl (by decide) rfl (fun ls hl => ?_)
  refine lv_iload_n hx hb dJ6_bitCount_0f7a4_24 rfl (lv_at hl 0 rfl) ?_
  refine lv_iload_n hx hb dJ6_bitCount_0f7a4_25 rfl (lv_at hl 0 rfl) ?_
  refine lv_iconst (v := 4) hx hb dJ6_bitCount_0f7a4_26 (by decide) ?_
  refine lv_iushr hx hb dJ6_bitCount_0f7a4_27 rfl ?_
  refine lv_iadd hx hb dJ6_bitCount_0f7a4_28 ?_
  refine lv_ldcw (v := 252645135) hx hb hown (hts _ k_J6_bitCount_0f7a4_c267) dJ6_bitCount_0f7a4_29 ?_
  refine lv_iand hx hb dJ6_bitCount_0f7a4_32 ?_
  refine lv_topi (fun v3 ev3 => ?_)
  have hw := hw v3 ev3
  refine lv_istore_n (lv' := [(0, .int v3)]) hx hb dJ6_bitCount_0f7a4_33 rfl hl (by decide) rfl (fun ls hl => ?_)
  refine lv_iload_n hx hb dJ6_bitCount_0f7a4_34 rfl (lv_at hl 0 rfl) ?_
  refine lv_iload_n hx hb dJ6_bitCount_0f7a4_35 rfl (lv_at hl 0 rfl) ?_
  refine lv_bipush (v := 8) hx hb dJ6_bitCount_0f7a4_36 (by decide) ?_
  refine lv_iushr hx hb dJ6_bitCount_0f7a4_38 rfl ?_
  refine lv_iadd hx hb dJ6_bitCount_0f7a4_39 ?_
  refine lv_topi (fun v4 ev4 => ?_)
  have hw := hw v4 ev4
  refine lv_istore_n (lv' := [(0, .int v4)]) hx hb dJ6_bitCount_0f7a4_40 rfl hl (by decide) rfl (fun ls hl => ?_)
  refine lv_iload_n hx hb dJ6_bitCount_0f7a4_41 rfl (lv_at hl 0 rfl) ?_
  refine lv_iload_n hx hb dJ6_bitCount_0f7a4_42 rfl (lv_at hl 0 rfl) ?_
  refine lv_bipush (v := 16) hx hb dJ6_bitCount_0f7a4_43 (by decide) ?_
  refine lv_iushr hx hb dJ6_bitCount_0f7a4_45 rfl ?_
  refine lv_iadd hx hb dJ6_bitCount_0f7a4_46 ?_
  refine lv_topi (fun v5 ev5 => ?_)
  have hw := hw v5 ev5
  refine lv_istore_n (lv' := [(0, .int v5)]) hx hb dJ6_bitCount_0f7a4_47 rfl hl (by decide) rfl (fun ls hl => ?_)
  refine lv_iload_n hx hb dJ6_bitCount_0f7a4_48 rfl (lv_at hl 0 rfl) ?_
  refine lv_bipush (v := 63) hx hb dJ6_bitCount_0f7a4_49 (by decide) ?_
  refine lv_iand hx hb dJ6_bitCount_0f7a4_51 ?_
  exact fin_i () hx hb hr hlocks hK hS hP hD hw dJ6_bitCount_0f7a4_52

abbrev w0_X5_bookBest (G : mG) (qm : Nat) (qd : Nat) (qs : Nat) (qn : Nat) (qk : Nat) (qt : Nat) (qr : Nat) (qx : Nat) (qdb : Nat) (qde : Nat) (qdf : Nat) (qsa : Nat) (qs0 : Nat) (qs0b : Nat) (qs0e : Nat) (qs0f : Nat) (qs1 : Nat) (qs1b : Nat) (qs1e : Nat) (qs1f : Nat) (qs2 : Nat) (qs2b : Nat) (qs2e : Nat) (qs2f : Nat) (qs3 : Nat) (qs3b : Nat) (qs3e : Nat) (qs3f : Nat) (qs4 : Nat) (qs4b : Nat) (qs4e : Nat) (qs4f : Nat) (qs5 : Nat) (qs5b : Nat) (qs5e : Nat) (qs5f : Nat) (qxo : Nat) (qxc : Nat) (qxt : Nat) (db : Nat → Int32) (de : Nat → Int32) (df : Nat → Int32) (dc : Int32) (dp : Int32) (dk : Int32) (so : Int32) (sn : Int32) (sb : Nat → Nat → Int32) (se : Nat → Nat → Int32) (sf : Nat → Nat → Int32) (sc : Nat → Int32) (sp : Nat → Int32) (sk : Nat → Int32) (ho : Nat → Int32) (hc : Nat → Int32) (ht : Nat → Int32) : va_W := [(qm, .inr (5, [.ref qd, .ref qs, .ref qn, .ref qk, .ref qt, .ref qr, .ref qx])), (qd, .inr (1, [.ref qdb, .ref qde, .ref qdf, .int dc, .int dp, .int dk])), (qdb, .inl (gI G, (14, .inl db))), (qde, .inl (gI G, (14, .inl de))), (qdf, .inl (gI G, (14, .inl df))), (qs, .inr (3, [.ref qsa, .int so, .int sn])), (qsa, .inl (gQ G, (6, .inr (.inr (.inr (.inr (g6 qs0 qs1 qs2 qs3 qs4 qs5))))))), (qs0, .inr (1, [.ref qs0b, .ref qs0e, .ref qs0f, .int (sc 0), .int (sp 0), .int (sk 0)])), (qs0b, .inl (gI G, (14, .inl (sb 0)))), (qs0e, .inl (gI G, (14, .inl (se 0)))), (qs0f, .inl (gI G, (14, .inl (sf 0)))), (qs1, .inr (1, [.ref qs1b, .ref qs1e, .ref qs1f, .int (sc 1), .int (sp 1), .int (sk 1)])), (qs1b, .inl (gI G, (14, .inl (sb 1)))), (qs1e, .inl (gI G, (14, .inl (se 1)))), (qs1f, .inl (gI G, (14, .inl (sf 1)))), (qs2, .inr (1, [.ref qs2b, .ref qs2e, .ref qs2f, .int (sc 2), .int (sp 2), .int (sk 2)])), (qs2b, .inl (gI G, (14, .inl (sb 2)))), (qs2e, .inl (gI G, (14, .inl (se 2)))), (qs2f, .inl (gI G, (14, .inl (sf 2)))), (qs3, .inr (1, [.ref qs3b, .ref qs3e, .ref qs3f, .int (sc 3), .int (sp 3), .int (sk 3)])), (qs3b, .inl (gI G, (14, .inl (sb 3)))), (qs3e, .inl (gI G, (14, .inl (se 3)))), (qs3f, .inl (gI G, (14, .inl (sf 3)))), (qs4, .inr (1, [.ref qs4b, .ref qs4e, .ref qs4f, .int (sc 4), .int (sp 4), .int (sk 4)])), (qs4b, .inl (gI G, (14, .inl (sb 4)))), (qs4e, .inl (gI G, (14, .inl (se 4)))), (qs4f, .inl (gI G, (14, .inl (sf 4)))), (qs5, .inr (1, [.ref qs5b, .ref qs5e, .ref qs5f, .int (sc 5), .int (sp 5), .int (sk 5)])), (qs5b, .inl (gI G, (14, .inl (sb 5)))), (qs5e, .inl (gI G, (14, .inl (se 5)))), (qs5f, .inl (gI G, (14, .inl (sf 5)))), (qx, .inr (0, [.ref qxo, .ref qxc, .ref qxt])), (qxo, .inl (gI G, (14, .inl ho))), (qxc, .inl (gI G, (14, .inl hc))), (qxt, .inl (gI G, (15, .inl ht)))]
set_option maxRecDepth 100000 in
theorem k_X5_bookBest_inX5 : ∀ w ∈ u_ws RX5 TX5 7, w ∈ wsX5_bookBest := by decide +kernel
set_option maxRecDepth 100000 in
theorem k_X5_bookBest_f19 : Cond.fieldLink RX5 19 "RehearsalRoom" "saved" "LRehearsalRoom$SavedDays;" ∈ wsX5_bookBest := by decide +kernel
set_option maxRecDepth 100000 in
theorem k_X5_bookBest_f10 : Cond.fieldLink RX5 10 "RehearsalRoom" "day" "LRehearsalRoom$Day;" ∈ wsX5_bookBest := by decide +kernel
set_option maxRecDepth 100000 in
theorem k_X5_bookBest_f48 : Cond.fieldLink RX5 48 "RehearsalRoom" "choices" "LRehearsalRoom$Choices;" ∈ wsX5_bookBest := by decide +kernel
set_option maxRecDepth 100000 in
theorem k_X5_bookBest_inX1 : ∀ w ∈ u_ws RX1 TX1 6, w ∈ wsX5_bookBest := by decide +kernel
set_option maxRecDepth 100000 in
theorem k_X5_bookBest_f128 : Cond.fieldLink RX5 128 "RehearsalRoom$Day" "bookings" "I" ∈ wsX5_bookBest := by decide +kernel
set_option maxHeartbeats 8000000 in
set_option maxRecDepth 100000 in
theorem cn_X5_bookBest (l : Launch) (G : mG) (qm : Nat) (qd : Nat) (qs : Nat) (qn : Nat) (qk : Nat) (qt : Nat) (qr : Nat) (qx : Nat) (qdb : Nat) (qde : Nat) (qdf : Nat) (qsa : Nat) (qs0 : Nat) (qs0b : Nat) (qs0e : Nat) (qs0f : Nat) (qs1 : Nat) (qs1b : Nat) (qs1e : Nat) (qs1f : Nat) (qs2 : Nat) (qs2b : Nat) (qs2e : Nat) (qs2f : Nat) (qs3 : Nat) (qs3b : Nat) (qs3e : Nat) (qs3f : Nat) (qs4 : Nat) (qs4b : Nat) (qs4e : Nat) (qs4f : Nat) (qs5 : Nat) (qs5b : Nat) (qs5e : Nat) (qs5f : Nat) (qxo : Nat) (qxc : Nat) (qxt : Nat) (db : Nat → Int32) (de : Nat → Int32) (df : Nat → Int32) (dc : Int32) (dp : Int32) (dk : Int32) (so : Int32) (sn : Int32) (sb : Nat → Nat → Int32) (se : Nat → Nat → Int32) (sf : Nat → Nat → Int32) (sc : Nat → Int32) (sp : Nat → Int32) (sk : Nat → Int32) (ho : Nat → Int32) (hc : Nat → Int32) (ht : Nat → Int32) {Q : Int32 → Int32 → Int32 → Int32 → (Nat → Nat → Int32) → (Nat → Nat → Int32) → (Nat → Nat → Int32) → (Nat → Int32) → (Nat → Int32) → (Nat → Int32) → (Nat → Int32) → (Nat → Int32) → Prop} (hw : wn_X5_bookBest db de df dc dp dk so sn sb se sf sc sp sk ho ht Q) (sz : Nat) :
    Met l yX5_bookBest wsX5_bookBest ({ frames := 4, cells := 0, slots := 0, locals := 91 } : Room) (va_Pc [.ref qm] (mPre G (w0_X5_bookBest G qm qd qs qn qk qt qr qx qdb qde qdf qsa qs0 qs0b qs0e qs0f qs1 qs1b qs1e qs1f qs2 qs2b qs2e qs2f qs3 qs3b qs3e qs3f qs4 qs4b qs4e qs4f qs5 qs5b qs5e qs5f qxo qxc qxt db de df dc dp dk so sn sb se sf sc sp sk ho hc ht) sz)) (va_Qi (fun (r : Int32) (u : Int32 × Int32 × Int32 × (Nat → Nat → Int32) × (Nat → Nat → Int32) × (Nat → Nat → Int32) × (Nat → Int32) × (Nat → Int32) × (Nat → Int32) × (Nat → Int32) × (Nat → Int32)) => Q r u.1 u.2.1 u.2.2.1 u.2.2.2.1 u.2.2.2.2.1 u.2.2.2.2.2.1 u.2.2.2.2.2.2.1 u.2.2.2.2.2.2.2.1 u.2.2.2.2.2.2.2.2.1 u.2.2.2.2.2.2.2.2.2.1 u.2.2.2.2.2.2.2.2.2.2) (mBk G (va_A (w0_X5_bookBest G qm qd qs qn qk qt qr qx qdb qde qdf qsa qs0 qs0b qs0e qs0f qs1 qs1b qs1e qs1f qs2 qs2b qs2e qs2f qs3 qs3b qs3e qs3f qs4 qs4b qs4e qs4f qs5 qs5b qs5e qs5f qxo qxc qxt db de df dc dp dk so sn sb se sf sc sp sk ho hc ht) sz) (fun (u : Int32 × Int32 × Int32 × (Nat → Nat → Int32) × (Nat → Nat → Int32) × (Nat → Nat → Int32) × (Nat → Int32) × (Nat → Int32) × (Nat → Int32) × (Nat → Int32) × (Nat → Int32)) => (w0_X5_bookBest G qm qd qs qn qk qt qr qx qdb qde qdf qsa qs0 qs0b qs0e qs0f qs1 qs1b qs1e qs1f qs2 qs2b qs2e qs2f qs3 qs3b qs3e qs3f qs4 qs4b qs4e qs4f qs5 qs5b qs5e qs5f qxo qxc qxt db de df dc dp u.1 u.2.1 u.2.2.1 u.2.2.2.1 u.2.2.2.2.1 u.2.2.2.2.2.1 u.2.2.2.2.2.2.1 u.2.2.2.2.2.2.2.1 u.2.2.2.2.2.2.2.2.1 u.2.2.2.2.2.2.2.2.2.1 hc u.2.2.2.2.2.2.2.2.2.2))) (va_A (w0_X5_bookBest G qm qd qs qn qk qt qr qx qdb qde qdf qsa qs0 qs0b qs0e qs0f qs1 qs1b qs1e qs1f qs2 qs2b qs2e qs2f qs3 qs3b qs3e qs3f qs4 qs4b qs4e qs4f qs5 qs5b qs5e qs5f qxo qxc qxt db de df dc dp dk so sn sb se sf sc sp sk ho hc ht) sz)) 0 0 (va_A (w0_X5_bookBest G qm qd qs qn qk qt qr qx qdb qde qdf qsa qs0 qs0b qs0e qs0f qs1 qs1b qs1e qs1f qs2 qs2b qs2e qs2f qs3 qs3b qs3e qs3f qs4 qs4b qs4e qs4f qs5 qs5b qs5e qs5f qxo qxc qxt db de df dc dp dk so sn sb se sf sc sp sk ho hc ht) sz) := by
  refine ms_i (cc := cX5_bookBest) (maxL := 1) (ret := some .int) (post := (fun (r : Int32) (u : Int32 × Int32 × Int32 × (Nat → Nat → Int32) × (Nat → Nat → Int32) × (Nat → Nat → Int32) × (Nat → Int32) × (Nat → Int32) × (Nat → Int32) × (Nat → Int32) × (Nat → Int32)) => Q r u.1 u.2.1 u.2.2.1 u.2.2.2.1 u.2.2.2.2.1 u.2.2.2.2.2.1 u.2.2.2.2.2.2.1 u.2.2.2.2.2.2.2.1 u.2.2.2.2.2.2.2.2.1 u.2.2.2.2.2.2.2.2.2.1 u.2.2.2.2.2.2.2.2.2.2)) (w1 := (fun (u : Int32 × Int32 × Int32 × (Nat → Nat → Int32) × (Nat → Nat → Int32) × (Nat → Nat → Int32) × (Nat → Int32) × (Nat → Int32) × (Nat → Int32) × (Nat → Int32) × (Nat → Int32)) => (w0_X5_bookBest G qm qd qs qn qk qt qr qx qdb qde qdf qsa qs0 qs0b qs0e qs0f qs1 qs1b qs1e qs1f qs2 qs2b qs2e qs2f qs3 qs3b qs3e qs3f qs4 qs4b qs4e qs4f qs5 qs5b qs5e qs5f qxo qxc qxt db de df dc dp u.1 u.2.1 u.2.2.1 u.2.2.2.1 u.2.2.2.2.1 u.2.2.2.2.2.1 u.2.2.2.2.2.2.1 u.2.2.2.2.2.2.2.1 u.2.2.2.2.2.2.2.2.1 u.2.2.2.2.2.2.2.2.2.1 hc u.2.2.2.2.2.2.2.2.2.2))) (by decide) rfl (Nat.le_of_ble_eq_true rfl) ?_ sz
  intro p e s m below meth c A ls H locs hx hb hr hml hown hts hlocks hK hG hP hD hS hA hl
  have hown : s.vm.findClass RX5 = some m.cls := hown
  have hl : lv_has ls 1 [(0, .ref qm)] := hl
  unfold wn_X5_bookBest at hw
  refine lv_aload_n hx hb dX5_bookBest_0 rfl (lv_at hl 0 rfl) ?_
  refine va_get (D := gD G) (ci := 5) (v := .ref qs) (C := RX5) (T := TX5) (N := 7) hx hb hts k_X5_bookBest_inX5 hown hK hP 0 rfl rfl 1 (by decide) (hts _ k_X5_bookBest_f19) (fun _ h9 => h9) rfl dX5_bookBest_1 ?_
  refine lv_aload_n hx hb dX5_bookBest_4 rfl (lv_at hl 0 rfl) ?_
  refine va_get (D := gD G) (ci := 5) (v := .ref qd) (C := RX5) (T := TX5) (N := 7) hx hb hts k_X5_bookBest_inX5 hown hK hP 0 rfl rfl 0 (by decide) (hts _ k_X5_bookBest_f10) (fun _ h9 => h9) rfl dX5_bookBest_5 ?_
  refine kc_v (kr_V [] ⟨hx, hb, hml, hown, hts⟩ (cn_X3_save l G qs qsa qs0 qs0b qs0e qs0f qs1 qs1b qs1e qs1f qs2 qs2b qs2e qs2f qs3 qs3b qs3e qs3f qs4 qs4b qs4e qs4f qs5 qs5b qs5e qs5f qd qdb qde qdf so sn sb se sf sc sp sk db de df dc dp dk hw H.size) (cwV 1 hts gX5_bookBest_X3_save rfl rfl rfl (by decide +kernel) ⟨Nat.le_of_ble_eq_true rfl, Nat.le_of_ble_eq_true rfl⟩) hK hG hP hD hS hA [5, 6, 7, 8, 9, 10, 11, 12, 13, 14, 15, 16, 17, 18, 19, 20, 21, 22, 23, 24, 25, 26, 27, 28, 29, 30, 1, 2, 3, 4] rfl rfl 3 5 rfl rfl rfl hl.1 rfl (Nat.le_of_ble_eq_true rfl) dX5_bookBest_8 ⟨Nat.le_of_ble_eq_true rfl, Nat.le_of_ble_eq_true rfl⟩) hP hD hS hA [5, 6, 7, 8, 9, 10, 11, 12, 13, 14, 15, 16, 17, 18, 19, 20, 21, 22, 23, 24, 25, 26, 27, 28, 29, 30, 1, 2, 3, 4] [0, 31, 32, 33, 34] rfl rfl rfl (by decide) (fun u H locs hw hP hD hS => ?_)
  obtain ⟨so_1, sn_2, sb_3, se_4, sf_5, sc_6, sp_7, sk_8⟩ := u
  try dsimp only at hw
  have hP := hP.sub (ws' := (w0_X5_bookBest G qm qd qs qn qk qt qr qx qdb qde qdf qsa qs0 qs0b qs0e qs0f qs1 qs1b qs1e qs1f qs2 qs2b qs2e qs2f qs3 qs3b qs3e qs3f qs4 qs4b qs4e qs4f qs5 qs5b qs5e qs5f qxo qxc qxt db de df dc dp dk so_1 sn_2 sb_3 se_4 sf_5 sc_6 sp_7 sk_8 ho hc ht)) [0, 31, 32, 33, 34, 5, 6, 7, 8, 9, 10, 11, 12, 13, 14, 15, 16, 17, 18, 19, 20, 21, 22, 23, 24, 25, 26, 27, 28, 29, 30, 1, 2, 3, 4] rfl
  have hD := hD.sub (ws' := (w0_X5_bookBest G qm qd qs qn qk qt qr qx qdb qde qdf qsa qs0 qs0b qs0e qs0f qs1 qs1b qs1e qs1f qs2 qs2b qs2e qs2f qs3 qs3b qs3e qs3f qs4 qs4b qs4e qs4f qs5 qs5b qs5e qs5f qxo qxc qxt db de df dc dp dk so_1 sn_2 sb_3 se_4 sf_5 sc_6 sp_7 sk_8 ho hc ht)) [0, 31, 32, 33, 34, 5, 6, 7, 8, 9, 10, 11, 12, 13, 14, 15, 16, 17, 18, 19, 20, 21, 22, 23, 24, 25, 26, 27, 28, 29, 30, 1, 2, 3, 4] rfl rfl
  refine lv_aload_n hx hb dX5_bookBest_11 rfl (lv_at hl 0 rfl) ?_
  refine va_get (D := gD G) (ci := 5) (v := .ref qd) (C := RX5) (T := TX5) (N := 7) hx hb hts k_X5_bookBest_inX5 hown hK hP 0 rfl rfl 0 (by decide) (hts _ k_X5_bookBest_f10) (fun _ h9 => h9) rfl dX5_bookBest_12 ?_
  refine lv_aload_n hx hb dX5_bookBest_15 rfl (lv_at hl 0 rfl) ?_
  refine va_get (D := gD G) (ci := 5) (v := .ref qx) (C := RX5) (T := TX5) (N := 7) hx hb hts k_X5_bookBest_inX5 hown hK hP 0 rfl rfl 6 (by decide) (hts _ k_X5_bookBest_f48) (fun _ h9 => h9) rfl dX5_bookBest_16 ?_
  refine lv_aload_n hx hb dX5_bookBest_19 rfl (lv_at hl 0 rfl) ?_
  refine va_get (D := gD G) (ci := 5) (v := .ref qd) (C := RX5) (T := TX5) (N := 7) hx hb hts k_X5_bookBest_inX5 hown hK hP 0 rfl rfl 0 (by decide) (hts _ k_X5_bookBest_f10) (fun _ h9 => h9) rfl dX5_bookBest_20 ?_
  refine kc_i (kr_V [.ref qd] ⟨hx, hb, hml, hown, hts⟩ (cn_X0_bestSet l G qx qxo qxc qxt qd qdb qde qdf ho hc ht db de df dc dp dk hw H.size) (cwV 1 hts gX5_bookBest_X0_bestSet rfl rfl rfl (by decide +kernel) ⟨Nat.le_of_ble_eq_true rfl, Nat.le_of_ble_eq_true rfl⟩) hK hG hP hD hS hA [31, 32, 33, 34, 1, 2, 3, 4] rfl rfl 0 31 rfl rfl rfl hl.1 rfl (Nat.le_of_ble_eq_true rfl) dX5_bookBest_23 ⟨Nat.le_of_ble_eq_true rfl, Nat.le_of_ble_eq_true rfl⟩) hP hD hS hA [31, 32, 33, 34, 1, 2, 3, 4] [0, 5, 6, 7, 8, 9, 10, 11, 12, 13, 14, 15, 16, 17, 18, 19, 20, 21, 22, 23, 24, 25, 26, 27, 28, 29, 30] rfl rfl rfl (by decide) (fun r9 u H locs hw hP hD hS => ?_)
  obtain ⟨ho_10, ht_11⟩ := u
  try dsimp only at hw
  have hP := hP.sub (ws' := (w0_X5_bookBest G qm qd qs qn qk qt qr qx qdb qde qdf qsa qs0 qs0b qs0e qs0f qs1 qs1b qs1e qs1f qs2 qs2b qs2e qs2f qs3 qs3b qs3e qs3f qs4 qs4b qs4e qs4f qs5 qs5b qs5e qs5f qxo qxc qxt db de df dc dp dk so_1 sn_2 sb_3 se_4 sf_5 sc_6 sp_7 sk_8 ho_10 hc ht_11)) [0, 31, 32, 33, 34, 1, 2, 3, 4, 5, 6, 7, 8, 9, 10, 11, 12, 13, 14, 15, 16, 17, 18, 19, 20, 21, 22, 23, 24, 25, 26, 27, 28, 29, 30] rfl
  have hD := hD.sub (ws' := (w0_X5_bookBest G qm qd qs qn qk qt qr qx qdb qde qdf qsa qs0 qs0b qs0e qs0f qs1 qs1b qs1e qs1f qs2 qs2b qs2e qs2f qs3 qs3b qs3e qs3f qs4 qs4b qs4e qs4f qs5 qs5b qs5e qs5f qxo qxc qxt db de df dc dp dk so_1 sn_2 sb_3 se_4 sf_5 sc_6 sp_7 sk_8 ho_10 hc ht_11)) [0, 31, 32, 33, 34, 1, 2, 3, 4, 5, 6, 7, 8, 9, 10, 11, 12, 13, 14, 15, 16, 17, 18, 19, 20, 21, 22, 23, 24, 25, 26, 27, 28, 29, 30] rfl rfl
  refine va_put (D := gD G) (ci := 1) (v := .int r9) (ty := .int) (C := RX1) (T := TX1) (N := 6) hx hb hts k_X5_bookBest_inX1 tyX1 tyX1_ok nmX1 hown hK hP hD hS 1 rfl rfl 5 (by decide) (hts _ k_X5_bookBest_f128) (fun _ h9 => h9) rfl (by decide +kernel) rfl rfl (Nat.le_of_ble_eq_true rfl) dX5_bookBest_26 (fun H locs hP hD hS => ?_)
  have hP : va_P (gD G) vwCl (w0_X5_bookBest G qm qd qs qn qk qt qr qx qdb qde qdf qsa qs0 qs0b qs0e qs0f qs1 qs1b qs1e qs1f qs2 qs2b qs2e qs2f qs3 qs3b qs3e qs3f qs4 qs4b qs4e qs4f qs5 qs5b qs5e qs5f qxo qxc qxt db de df dc dp r9 so_1 sn_2 sb_3 se_4 sf_5 sc_6 sp_7 sk_8 ho_10 hc ht_11) H := hP
  have hD : va_D A (w0_X5_bookBest G qm qd qs qn qk qt qr qx qdb qde qdf qsa qs0 qs0b qs0e qs0f qs1 qs1b qs1e qs1f qs2 qs2b qs2e qs2f qs3 qs3b qs3e qs3f qs4 qs4b qs4e qs4f qs5 qs5b qs5e qs5f qxo qxc qxt db de df dc dp r9 so_1 sn_2 sb_3 se_4 sf_5 sc_6 sp_7 sk_8 ho_10 hc ht_11) := hD
  refine lv_aload_n hx hb dX5_bookBest_29 rfl (lv_at hl 0 rfl) ?_
  refine va_get (D := gD G) (ci := 5) (v := .ref qd) (C := RX5) (T := TX5) (N := 7) hx hb hts k_X5_bookBest_inX5 hown hK hP 0 rfl rfl 0 (by decide) (hts _ k_X5_bookBest_f10) (fun _ h9 => h9) rfl dX5_bookBest_30 ?_
  refine va_get (D := gD G) (ci := 1) (v := .int r9) (C := RX1) (T := TX1) (N := 6) hx hb hts k_X5_bookBest_inX1 hown hK hP 1 rfl rfl 5 (by decide) (hts _ k_X5_bookBest_f128) (fun _ h9 => h9) rfl dX5_bookBest_33 ?_
  refine kcR_i (kr_S [] ⟨hx, hb, hml, hown, hts⟩ (cn_J6_bitCount_0f7a4 l G r9 hw H.size) (va_cwS 1 hts gX5_bookBest_J6_bitCount_0f7a4 rfl rfl rfl (by decide +kernel) ⟨Nat.le_of_ble_eq_true rfl, Nat.le_of_ble_eq_true rfl⟩) hK hG hP hD hS hA [] rfl rfl rfl hl.1 rfl (Nat.le_of_ble_eq_true rfl) dX5_bookBest_36 ⟨Nat.le_of_ble_eq_true rfl, Nat.le_of_ble_eq_true rfl⟩) hP hD hS hA [] rfl (fun r12 u H locs hw hP hS => ?_)
  try dsimp only at hw
  exact fin_i (r9, so_1, sn_2, sb_3, se_4, sf_5, sc_6, sp_7, sk_8, ho_10, ht_11) hx hb hr hlocks hK hS hP hD hw dX5_bookBest_39

abbrev w0_X5_append (G : mG) (qm : Nat) (qd : Nat) (qs : Nat) (qn : Nat) (qk : Nat) (qt : Nat) (qr : Nat) (qx : Nat) (qtc : Nat) (qtn : Nat) (tc : Nat → Int32) (tl : Int32) (tn : Nat → Int32) (tf : Int32) (tv : Int32) : va_W := [(qm, .inr (5, [.ref qd, .ref qs, .ref qn, .ref qk, .ref qt, .ref qr, .ref qx])), (qt, .inr (4, [.ref qtc, .int tl, .ref qtn, .int tf, .int tv])), (qtc, .inl (gI G, (60, .inl tc))), (qtn, .inl (gI G, (60, .inl tn)))]
set_option maxRecDepth 100000 in
theorem k_X5_append_l110 : Cond.classLink RX5 110 "java/lang/IllegalArgumentException" ∈ wsX5_append := by decide +kernel
set_option maxRecDepth 100000 in
theorem k_X5_append_i110 : Cond.initialized "java/lang/IllegalArgumentException" ∈ wsX5_append := by decide +kernel
set_option maxRecDepth 100000 in
theorem k_X5_append_a114 : ∀ w ∈ (vx_atS RX5 114 "java/lang/IllegalArgumentException" gSup).filter goodWord, w ∈ wsX5_append := by decide +kernel
set_option maxRecDepth 100000 in
theorem k_X5_append_inX5 : ∀ w ∈ u_ws RX5 TX5 7, w ∈ wsX5_append := by decide +kernel
set_option maxRecDepth 100000 in
theorem k_X5_append_f34 : Cond.fieldLink RX5 34 "RehearsalRoom" "buffer" "LRehearsalRoom$Text;" ∈ wsX5_append := by decide +kernel
set_option maxRecDepth 100000 in
theorem k_X5_append_inX4 : ∀ w ∈ u_ws RX4 TX4 5, w ∈ wsX5_append := by decide +kernel
set_option maxRecDepth 100000 in
theorem k_X5_append_f150 : Cond.fieldLink RX5 150 "RehearsalRoom$Text" "length" "I" ∈ wsX5_append := by decide +kernel
set_option maxRecDepth 100000 in
theorem k_X5_append_l93 : Cond.classLink RX5 93 "java/lang/IllegalStateException" ∈ wsX5_append := by decide +kernel
set_option maxRecDepth 100000 in
theorem k_X5_append_i93 : Cond.initialized "java/lang/IllegalStateException" ∈ wsX5_append := by decide +kernel
set_option maxRecDepth 100000 in
theorem k_X5_append_a97 : ∀ w ∈ (vx_atS RX5 97 "java/lang/IllegalStateException" gSup).filter goodWord, w ∈ wsX5_append := by decide +kernel
set_option maxHeartbeats 8000000 in
set_option maxRecDepth 100000 in
theorem cx_X5_append (l : Launch) (hst : l.stackTraces = false) (G : mG) (qm : Nat) (qd : Nat) (qs : Nat) (qn : Nat) (qk : Nat) (qt : Nat) (qr : Nat) (qx : Nat) (qtc : Nat) (qtn : Nat) (tc : Nat → Int32) (tl : Int32) (tn : Nat → Int32) (tf : Int32) (tv : Int32) (a1 : Int32) {Q : Int32 → (Nat → Int32) → Int32 → Prop} {X : String → (Nat → Int32) → Int32 → Prop} (hw : wx_X5_append tc tl a1 Q X) (sz : Nat) :
    vx_Met l yX5_append wsX5_append ({ frames := 6, cells := 1, slots := 6, locals := 90 } : Room) (va_Pc [.ref qm, .int a1] (mPre G (w0_X5_append G qm qd qs qn qk qt qr qx qtc qtn tc tl tn tf tv) sz)) (va_Qi (fun (r : Int32) (u : (Nat → Int32) × Int32) => Q r u.1 u.2) (mBk G (va_A (w0_X5_append G qm qd qs qn qk qt qr qx qtc qtn tc tl tn tf tv) sz) (fun (u : (Nat → Int32) × Int32) => (w0_X5_append G qm qd qs qn qk qt qr qx qtc qtn u.1 u.2 tn tf tv))) (va_A (w0_X5_append G qm qd qs qn qk qt qr qx qtc qtn tc tl tn tf tv) sz)) (vx_X (fun _ => True) (fun E u t => (fun (E : String) (u : (Nat → Int32) × Int32) => X E u.1 u.2) E u ∧ mBk G (va_A (w0_X5_append G qm qd qs qn qk qt qr qx qtc qtn tc tl tn tf tv) sz) (fun (u : (Nat → Int32) × Int32) => (w0_X5_append G qm qd qs qn qk qt qr qx qtc qtn u.1 u.2 tn tf tv)) u t) (va_A (w0_X5_append G qm qd qs qn qk qt qr qx qtc qtn tc tl tn tf tv) sz)) 1 6 (va_A (w0_X5_append G qm qd qs qn qk qt qr qx qtc qtn tc tl tn tf tv) sz) := by
  refine mx_i (cc := cX5_append) (maxL := 2) (ret := some .int) (post := (fun (r : Int32) (u : (Nat → Int32) × Int32) => Q r u.1 u.2)) (w1 := (fun (u : (Nat → Int32) × Int32) => (w0_X5_append G qm qd qs qn qk qt qr qx qtc qtn u.1 u.2 tn tf tv))) (px := (fun (E : String) (u : (Nat → Int32) × Int32) => X E u.1 u.2)) (by decide) rfl (Nat.le_of_ble_eq_true rfl) ?_ sz
  intro p e s m below meth c A ls H locs hx hb hr hml hown hts hlocks hnt hK hG hP hD hS hA hl
  have hown : s.vm.findClass RX5 = some m.cls := hown
  have hl : lv_has ls 2 [(0, .ref qm), (1, .int a1)] := hl
  have J12 : ∀ (tc : Nat → Int32) (tl : Int32) (x1 : Int32) (H : Heap) (locs : List Loc) (ls : Array Slot), va_P (gD G) vwCl (w0_X5_append G qm qd qs qn qk qt qr qx qtc qtn tc tl tn tf tv) H → va_D A (w0_X5_append G qm qd qs qn qk qt qr qx qtc qtn tc tl tn tf tv) → va_S A s.heap H locs → lv_has ls 2 [(0, .ref qm), (1, .int x1)] → wj_x_X5_append_12 Q X tc tl x1 → W p l e ({ frames := 6, cells := 1, slots := 6, locals := 90 } : Room) s m ([.ref qm, .int a1] : List Value).toArray below meth c H locs 0 0 (vx_MQ below (va_Qi (fun (r : Int32) (u : (Nat → Int32) × Int32) => Q r u.1 u.2) (mBk G A (fun (u : (Nat → Int32) × Int32) => (w0_X5_append G qm qd qs qn qk qt qr qx qtc qtn u.1 u.2 tn tf tv))) A) (vx_X (fun _ => True) (fun E u t => (fun (E : String) (u : (Nat → Int32) × Int32) => X E u.1 u.2) E u ∧ mBk G A (fun (u : (Nat → Int32) × Int32) => (w0_X5_append G qm qd qs qn qk qt qr qx qtc qtn u.1 u.2 tn tf tv)) u t) A) ([.ref qm, .int a1] : List Value).toArray s 1 6 A) (F0 m 12 ls []) := by
    intro tc tl x1 H locs ls hP hD hS hl hw
    unfold wj_x_X5_append_12 at hw
    exact kth (nL := 2) "no such character" (tc, tl) hx hb hst hown hts hG hnt hlocks hml hl.1 hK hS hP hD hw ⟨by decide +kernel, by decide +kernel⟩ (by decide +kernel) k_X5_append_l110 k_X5_append_i110 k_X5_append_a114 tnb_114 tgd_114 dX5_append_12 dX5_append_15 dX5_append_21 ⟨dX5_append_16, dX5_append_18⟩ ⟨by decide, by decide, by decide, by decide⟩ (Nat.le_of_ble_eq_true rfl) (Nat.le_of_ble_eq_true rfl)
  unfold wx_X5_append at hw
  refine lv_iload_n hx hb dX5_append_0 rfl (lv_at hl 1 rfl) ?_
  refine lv_bipush (v := 33) hx hb dX5_append_1 (by decide) ?_
  refine lv_icmp_lt (tgt := 12) hx hb dX5_append_3 (by decide) (fun cd1 => ?_) (fun cd1 => ?_)
  · have hw := hw.1 cd1
    exact J12 tc tl a1 _ _ _ hP hD hS hl hw
  · have hw := hw.2 cd1
    refine lv_iload_n hx hb dX5_append_6 rfl (lv_at hl 1 rfl) ?_
    refine lv_bipush (v := 126) hx hb dX5_append_7 (by decide) ?_
    refine lv_icmp_le (tgt := 22) hx hb dX5_append_9 (by decide) (fun cd2 => ?_) (fun cd2 => ?_)
    · have hw := hw.1 cd2
      refine lv_aload_n hx hb dX5_append_22 rfl (lv_at hl 0 rfl) ?_
      refine va_get (D := gD G) (ci := 5) (v := .ref qt) (C := RX5) (T := TX5) (N := 7) hx hb hts k_X5_append_inX5 hown hK hP 0 rfl rfl 4 (by decide) (hts _ k_X5_append_f34) (fun _ h9 => h9) rfl dX5_append_23 ?_
      refine va_get (D := gD G) (ci := 4) (v := .int tl) (C := RX4) (T := TX4) (N := 5) hx hb hts k_X5_append_inX4 hown hK hP 1 rfl rfl 1 (by decide) (hts _ k_X5_append_f150) (fun _ h9 => h9) rfl dX5_append_26 ?_
      refine lv_bipush (v := 60) hx hb dX5_append_29 (by decide) ?_
      refine lv_icmp_lt (tgt := 44) hx hb dX5_append_31 (by decide) (fun cd3 => ?_) (fun cd3 => ?_)
      · have hw := hw.1 cd3
        refine lv_aload_n hx hb dX5_append_44 rfl (lv_at hl 0 rfl) ?_
        refine va_get (D := gD G) (ci := 5) (v := .ref qt) (C := RX5) (T := TX5) (N := 7) hx hb hts k_X5_append_inX5 hown hK hP 0 rfl rfl 4 (by decide) (hts _ k_X5_append_f34) (fun _ h9 => h9) rfl dX5_append_45 ?_
        refine lv_iload_n hx hb dX5_append_48 rfl (lv_at hl 1 rfl) ?_
        refine kc_v (kr_V [] ⟨hx, hb, hml, hown, hts⟩ (cn_X4_put l G qt qtc qtn tc tl tn tf tv a1 hw H.size) (cwV 1 hts gX5_append_X4_put rfl rfl rfl (by decide +kernel) ⟨Nat.le_of_ble_eq_true rfl, Nat.le_of_ble_eq_true rfl⟩) hK hG hP hD hS hA [1, 2, 3] rfl rfl 4 1 rfl rfl rfl hl.1 rfl (Nat.le_of_ble_eq_true rfl) dX5_append_49 ⟨Nat.le_of_ble_eq_true rfl, Nat.le_of_ble_eq_true rfl⟩) hP hD hS hA [1, 2, 3] [0] rfl rfl rfl (by decide) (fun u H locs hw hP hD hS => ?_)
        obtain ⟨tc_4, tl_5⟩ := u
        try dsimp only at hw
        have hP := hP.sub (ws' := (w0_X5_append G qm qd qs qn qk qt qr qx qtc qtn tc_4 tl_5 tn tf tv)) [0, 1, 2, 3] rfl
        have hD := hD.sub (ws' := (w0_X5_append G qm qd qs qn qk qt qr qx qtc qtn tc_4 tl_5 tn tf tv)) [0, 1, 2, 3] rfl rfl
        refine lv_aload_n hx hb dX5_append_52 rfl (lv_at hl 0 rfl) ?_
        refine va_get (D := gD G) (ci := 5) (v := .ref qt) (C := RX5) (T := TX5) (N := 7) hx hb hts k_X5_append_inX5 hown hK hP 0 rfl rfl 4 (by decide) (hts _ k_X5_append_f34) (fun _ h9 => h9) rfl dX5_append_53 ?_
        refine va_get (D := gD G) (ci := 4) (v := .int tl_5) (C := RX4) (T := TX4) (N := 5) hx hb hts k_X5_append_inX4 hown hK hP 1 rfl rfl 1 (by decide) (hts _ k_X5_append_f150) (fun _ h9 => h9) rfl dX5_append_56 ?_
        exact fin_x (Nat.le_of_ble_eq_true rfl) (Nat.le_of_ble_eq_true rfl) (fin_i (tc_4, tl_5) hx hb hr hlocks hK hS hP hD hw dX5_append_59)
      · have hw := hw.2 cd3
        exact kth (nL := 2) "the buffer is full" (tc, tl) hx hb hst hown hts hG hnt hlocks hml hl.1 hK hS hP hD hw ⟨by decide +kernel, by decide +kernel⟩ (by decide +kernel) k_X5_append_l93 k_X5_append_i93 k_X5_append_a97 tnb_97 tgd_97 dX5_append_34 dX5_append_37 dX5_append_43 ⟨dX5_append_38, dX5_append_40⟩ ⟨by decide, by decide, by decide, by decide⟩ (Nat.le_of_ble_eq_true rfl) (Nat.le_of_ble_eq_true rfl)
    · have hw := hw.2 cd2
      exact J12 tc tl a1 _ _ _ hP hD hS hl hw

abbrev w0_X5_clearBuffer (G : mG) (qm : Nat) (qd : Nat) (qs : Nat) (qn : Nat) (qk : Nat) (qt : Nat) (qr : Nat) (qx : Nat) (qtc : Nat) (qtn : Nat) (tc : Nat → Int32) (tl : Int32) (tn : Nat → Int32) (tf : Int32) (tv : Int32) : va_W := [(qm, .inr (5, [.ref qd, .ref qs, .ref qn, .ref qk, .ref qt, .ref qr, .ref qx])), (qt, .inr (4, [.ref qtc, .int tl, .ref qtn, .int tf, .int tv])), (qtc, .inl (gI G, (60, .inl tc))), (qtn, .inl (gI G, (60, .inl tn)))]
set_option maxRecDepth 100000 in
theorem k_X5_clearBuffer_inX5 : ∀ w ∈ u_ws RX5 TX5 7, w ∈ wsX5_clearBuffer := by decide +kernel
set_option maxRecDepth 100000 in
theorem k_X5_clearBuffer_f34 : Cond.fieldLink RX5 34 "RehearsalRoom" "buffer" "LRehearsalRoom$Text;" ∈ wsX5_clearBuffer := by decide +kernel
set_option maxRecDepth 100000 in
theorem k_X5_clearBuffer_inX4 : ∀ w ∈ u_ws RX4 TX4 5, w ∈ wsX5_clearBuffer := by decide +kernel
set_option maxRecDepth 100000 in
theorem k_X5_clearBuffer_f150 : Cond.fieldLink RX5 150 "RehearsalRoom$Text" "length" "I" ∈ wsX5_clearBuffer := by decide +kernel
set_option maxHeartbeats 8000000 in
set_option maxRecDepth 100000 in
theorem cn_X5_clearBuffer (l : Launch) (G : mG) (qm : Nat) (qd : Nat) (qs : Nat) (qn : Nat) (qk : Nat) (qt : Nat) (qr : Nat) (qx : Nat) (qtc : Nat) (qtn : Nat) (tc : Nat → Int32) (tl : Int32) (tn : Nat → Int32) (tf : Int32) (tv : Int32) {Q : Int32 → Int32 → Prop} (hw : wn_X5_clearBuffer tl Q) (sz : Nat) :
    Met l yX5_clearBuffer wsX5_clearBuffer ({ frames := 0, cells := 0, slots := 0, locals := 0 } : Room) (va_Pc [.ref qm] (mPre G (w0_X5_clearBuffer G qm qd qs qn qk qt qr qx qtc qtn tc tl tn tf tv) sz)) (va_Qi (fun (r : Int32) (u : Int32) => Q r u) (mBk G (va_A (w0_X5_clearBuffer G qm qd qs qn qk qt qr qx qtc qtn tc tl tn tf tv) sz) (fun (u : Int32) => (w0_X5_clearBuffer G qm qd qs qn qk qt qr qx qtc qtn tc u tn tf tv))) (va_A (w0_X5_clearBuffer G qm qd qs qn qk qt qr qx qtc qtn tc tl tn tf tv) sz)) 0 0 (va_A (w0_X5_clearBuffer G qm qd qs qn qk qt qr qx qtc qtn tc tl tn tf tv) sz) := by
  refine ms_i (cc := cX5_clearBuffer) (maxL := 2) (ret := some .int) (post := (fun (r : Int32) (u : Int32) => Q r u)) (w1 := (fun (u : Int32) => (w0_X5_clearBuffer G qm qd qs qn qk qt qr qx qtc qtn tc u tn tf tv))) (by decide) rfl (Nat.le_of_ble_eq_true rfl) ?_ sz
  intro p e s m below meth c A ls H locs hx hb hr hml hown hts hlocks hK hG hP hD hS hA hl
  have hown : s.vm.findClass RX5 = some m.cls := hown
  have hl : lv_has ls 2 [(0, .ref qm)] := hl
  unfold wn_X5_clearBuffer at hw
  refine lv_aload_n hx hb dX5_clearBuffer_0 rfl (lv_at hl 0 rfl) ?_
  refine va_get (D := gD G) (ci := 5) (v := .ref qt) (C := RX5) (T := TX5) (N := 7) hx hb hts k_X5_clearBuffer_inX5 hown hK hP 0 rfl rfl 4 (by decide) (hts _ k_X5_clearBuffer_f34) (fun _ h9 => h9) rfl dX5_clearBuffer_1 ?_
  refine va_get (D := gD G) (ci := 4) (v := .int tl) (C := RX4) (T := TX4) (N := 5) hx hb hts k_X5_clearBuffer_inX4 hown hK hP 1 rfl rfl 1 (by decide) (hts _ k_X5_clearBuffer_f150) (fun _ h9 => h9) rfl dX5_clearBuffer_4 ?_
  refine lv_istore_n (lv' := [(1, .int tl), (0, .ref qm)]) hx hb dX5_clearBuffer_7 rfl hl (by decide) rfl (fun ls hl => ?_)
  refine lv_aload_n hx hb dX5_clearBuffer_8 rfl (lv_at hl 1 rfl) ?_
  refine va_get (D := gD G) (ci := 5) (v := .ref qt) (C := RX5) (T := TX5) (N := 7) hx hb hts k_X5_clearBuffer_inX5 hown hK hP 0 rfl rfl 4 (by decide) (hts _ k_X5_clearBuffer_f34) (fun _ h9 => h9) rfl dX5_clearBuffer_9 ?_
  refine lv_iconst (v := 0) hx hb dX5_clearBuffer_12 (by decide) ?_
  refine va_put (D := gD G) (ci := 4) (v := .int (0 : Int32)) (ty := .int) (C := RX4) (T := TX4) (N := 5) hx hb hts k_X5_clearBuffer_inX4 tyX4 tyX4_ok nmX4 hown hK hP hD hS 1 rfl rfl 1 (by decide) (hts _ k_X5_clearBuffer_f150) (fun _ h9 => h9) rfl (by decide +kernel) rfl rfl (Nat.le_of_ble_eq_true rfl) dX5_clearBuffer_13 (fun H locs hP hD hS => ?_)
  have hP : va_P (gD G) vwCl (w0_X5_clearBuffer G qm qd qs qn qk qt qr qx qtc qtn tc (0 : Int32) tn tf tv) H := hP
  have hD : va_D A (w0_X5_clearBuffer G qm qd qs qn qk qt qr qx qtc qtn tc (0 : Int32) tn tf tv) := hD
  refine lv_iload_n hx hb dX5_clearBuffer_16 rfl (lv_at hl 0 rfl) ?_
  exact fin_i ((0 : Int32)) hx hb hr hlocks hK hS hP hD hw dX5_clearBuffer_17

abbrev w0_X5_firstError (G : mG) (qm : Nat) (qd : Nat) (qs : Nat) (qn : Nat) (qk : Nat) (qt : Nat) (qr : Nat) (qx : Nat) (qtc : Nat) (qtn : Nat) (tc : Nat → Int32) (tl : Int32) (tn : Nat → Int32) (tf : Int32) (tv : Int32) : va_W := [(qm, .inr (5, [.ref qd, .ref qs, .ref qn, .ref qk, .ref qt, .ref qr, .ref qx])), (qt, .inr (4, [.ref qtc, .int tl, .ref qtn, .int tf, .int tv])), (qtc, .inl (gI G, (60, .inl tc))), (qtn, .inl (gI G, (60, .inl tn)))]
set_option maxRecDepth 100000 in
theorem k_X5_firstError_inX5 : ∀ w ∈ u_ws RX5 TX5 7, w ∈ wsX5_firstError := by decide +kernel
set_option maxRecDepth 100000 in
theorem k_X5_firstError_f34 : Cond.fieldLink RX5 34 "RehearsalRoom" "buffer" "LRehearsalRoom$Text;" ∈ wsX5_firstError := by decide +kernel
set_option maxHeartbeats 8000000 in
set_option maxRecDepth 100000 in
theorem cn_X5_firstError (l : Launch) (G : mG) (qm : Nat) (qd : Nat) (qs : Nat) (qn : Nat) (qk : Nat) (qt : Nat) (qr : Nat) (qx : Nat) (qtc : Nat) (qtn : Nat) (tc : Nat → Int32) (tl : Int32) (tn : Nat → Int32) (tf : Int32) (tv : Int32) {Q : Int32 → (Nat → Int32) → Int32 → Int32 → Prop} (hw : wn_X5_firstError tc tl tn tf tv Q) (sz : Nat) :
    Met l yX5_firstError wsX5_firstError ({ frames := 4, cells := 0, slots := 0, locals := 84 } : Room) (va_Pc [.ref qm] (mPre G (w0_X5_firstError G qm qd qs qn qk qt qr qx qtc qtn tc tl tn tf tv) sz)) (va_Qi (fun (r : Int32) (u : (Nat → Int32) × Int32 × Int32) => Q r u.1 u.2.1 u.2.2) (mBk G (va_A (w0_X5_firstError G qm qd qs qn qk qt qr qx qtc qtn tc tl tn tf tv) sz) (fun (u : (Nat → Int32) × Int32 × Int32) => (w0_X5_firstError G qm qd qs qn qk qt qr qx qtc qtn tc tl u.1 u.2.1 u.2.2))) (va_A (w0_X5_firstError G qm qd qs qn qk qt qr qx qtc qtn tc tl tn tf tv) sz)) 0 0 (va_A (w0_X5_firstError G qm qd qs qn qk qt qr qx qtc qtn tc tl tn tf tv) sz) := by
  refine ms_i (cc := cX5_firstError) (maxL := 1) (ret := some .int) (post := (fun (r : Int32) (u : (Nat → Int32) × Int32 × Int32) => Q r u.1 u.2.1 u.2.2)) (w1 := (fun (u : (Nat → Int32) × Int32 × Int32) => (w0_X5_firstError G qm qd qs qn qk qt qr qx qtc qtn tc tl u.1 u.2.1 u.2.2))) (by decide) rfl (Nat.le_of_ble_eq_true rfl) ?_ sz
  intro p e s m below meth c A ls H locs hx hb hr hml hown hts hlocks hK hG hP hD hS hA hl
  have hown : s.vm.findClass RX5 = some m.cls := hown
  have hl : lv_has ls 1 [(0, .ref qm)] := hl
  unfold wn_X5_firstError at hw
  refine lv_aload_n hx hb dX5_firstError_0 rfl (lv_at hl 0 rfl) ?_
  refine va_get (D := gD G) (ci := 5) (v := .ref qt) (C := RX5) (T := TX5) (N := 7) hx hb hts k_X5_firstError_inX5 hown hK hP 0 rfl rfl 4 (by decide) (hts _ k_X5_firstError_f34) (fun _ h9 => h9) rfl dX5_firstError_1 ?_
  refine kc_i (kr_V [] ⟨hx, hb, hml, hown, hts⟩ (cn_X4_scan l G qt qtc qtn tc tl tn tf tv hw H.size) (cwV 0 hts gX5_firstError_X4_scan rfl rfl rfl (by decide +kernel) ⟨Nat.le_of_ble_eq_true rfl, Nat.le_of_ble_eq_true rfl⟩) hK hG hP hD hS hA [1, 2, 3] rfl rfl 4 1 rfl rfl rfl hl.1 rfl (Nat.le_of_ble_eq_true rfl) dX5_firstError_4 ⟨Nat.le_of_ble_eq_true rfl, Nat.le_of_ble_eq_true rfl⟩) hP hD hS hA [1, 2, 3] [0] rfl rfl rfl (by decide) (fun r1 u H locs hw hP hD hS => ?_)
  obtain ⟨tn_2, tf_3, tv_4⟩ := u
  try dsimp only at hw
  have hP := hP.sub (ws' := (w0_X5_firstError G qm qd qs qn qk qt qr qx qtc qtn tc tl tn_2 tf_3 tv_4)) [0, 1, 2, 3] rfl
  have hD := hD.sub (ws' := (w0_X5_firstError G qm qd qs qn qk qt qr qx qtc qtn tc tl tn_2 tf_3 tv_4)) [0, 1, 2, 3] rfl rfl
  exact fin_i (tn_2, tf_3, tv_4) hx hb hr hlocks hK hS hP hD hw dX5_firstError_7

abbrev w0_X5_read (G : mG) (qm : Nat) (qd : Nat) (qs : Nat) (qn : Nat) (qk : Nat) (qt : Nat) (qr : Nat) (qx : Nat) (qdb : Nat) (qde : Nat) (qdf : Nat) (qsa : Nat) (qs0 : Nat) (qs0b : Nat) (qs0e : Nat) (qs0f : Nat) (qs1 : Nat) (qs1b : Nat) (qs1e : Nat) (qs1f : Nat) (qs2 : Nat) (qs2b : Nat) (qs2e : Nat) (qs2f : Nat) (qs3 : Nat) (qs3b : Nat) (qs3e : Nat) (qs3f : Nat) (qs4 : Nat) (qs4b : Nat) (qs4e : Nat) (qs4f : Nat) (qs5 : Nat) (qs5b : Nat) (qs5e : Nat) (qs5f : Nat) (qtc : Nat) (qtn : Nat) (db : Nat → Int32) (de : Nat → Int32) (df : Nat → Int32) (dc : Int32) (dp : Int32) (dk : Int32) (so : Int32) (sn : Int32) (sb : Nat → Nat → Int32) (se : Nat → Nat → Int32) (sf : Nat → Nat → Int32) (sc : Nat → Int32) (sp : Nat → Int32) (sk : Nat → Int32) (tc : Nat → Int32) (tl : Int32) (tn : Nat → Int32) (tf : Int32) (tv : Int32) : va_W := [(qm, .inr (5, [.ref qd, .ref qs, .ref qn, .ref qk, .ref qt, .ref qr, .ref qx])), (qd, .inr (1, [.ref qdb, .ref qde, .ref qdf, .int dc, .int dp, .int dk])), (qdb, .inl (gI G, (14, .inl db))), (qde, .inl (gI G, (14, .inl de))), (qdf, .inl (gI G, (14, .inl df))), (qs, .inr (3, [.ref qsa, .int so, .int sn])), (qsa, .inl (gQ G, (6, .inr (.inr (.inr (.inr (g6 qs0 qs1 qs2 qs3 qs4 qs5))))))), (qs0, .inr (1, [.ref qs0b, .ref qs0e, .ref qs0f, .int (sc 0), .int (sp 0), .int (sk 0)])), (qs0b, .inl (gI G, (14, .inl (sb 0)))), (qs0e, .inl (gI G, (14, .inl (se 0)))), (qs0f, .inl (gI G, (14, .inl (sf 0)))), (qs1, .inr (1, [.ref qs1b, .ref qs1e, .ref qs1f, .int (sc 1), .int (sp 1), .int (sk 1)])), (qs1b, .inl (gI G, (14, .inl (sb 1)))), (qs1e, .inl (gI G, (14, .inl (se 1)))), (qs1f, .inl (gI G, (14, .inl (sf 1)))), (qs2, .inr (1, [.ref qs2b, .ref qs2e, .ref qs2f, .int (sc 2), .int (sp 2), .int (sk 2)])), (qs2b, .inl (gI G, (14, .inl (sb 2)))), (qs2e, .inl (gI G, (14, .inl (se 2)))), (qs2f, .inl (gI G, (14, .inl (sf 2)))), (qs3, .inr (1, [.ref qs3b, .ref qs3e, .ref qs3f, .int (sc 3), .int (sp 3), .int (sk 3)])), (qs3b, .inl (gI G, (14, .inl (sb 3)))), (qs3e, .inl (gI G, (14, .inl (se 3)))), (qs3f, .inl (gI G, (14, .inl (sf 3)))), (qs4, .inr (1, [.ref qs4b, .ref qs4e, .ref qs4f, .int (sc 4), .int (sp 4), .int (sk 4)])), (qs4b, .inl (gI G, (14, .inl (sb 4)))), (qs4e, .inl (gI G, (14, .inl (se 4)))), (qs4f, .inl (gI G, (14, .inl (sf 4)))), (qs5, .inr (1, [.ref qs5b, .ref qs5e, .ref qs5f, .int (sc 5), .int (sp 5), .int (sk 5)])), (qs5b, .inl (gI G, (14, .inl (sb 5)))), (qs5e, .inl (gI G, (14, .inl (se 5)))), (qs5f, .inl (gI G, (14, .inl (sf 5)))), (qt, .inr (4, [.ref qtc, .int tl, .ref qtn, .int tf, .int tv])), (qtc, .inl (gI G, (60, .inl tc))), (qtn, .inl (gI G, (60, .inl tn)))]
set_option maxRecDepth 100000 in
theorem k_X5_read_inX5 : ∀ w ∈ u_ws RX5 TX5 7, w ∈ wsX5_read := by decide +kernel
set_option maxRecDepth 100000 in
theorem k_X5_read_f34 : Cond.fieldLink RX5 34 "RehearsalRoom" "buffer" "LRehearsalRoom$Text;" ∈ wsX5_read := by decide +kernel
set_option maxRecDepth 100000 in
theorem k_X5_read_l110 : Cond.classLink RX5 110 "java/lang/IllegalArgumentException" ∈ wsX5_read := by decide +kernel
set_option maxRecDepth 100000 in
theorem k_X5_read_i110 : Cond.initialized "java/lang/IllegalArgumentException" ∈ wsX5_read := by decide +kernel
set_option maxRecDepth 100000 in
theorem k_X5_read_a114 : ∀ w ∈ (vx_atS RX5 114 "java/lang/IllegalArgumentException" gSup).filter goodWord, w ∈ wsX5_read := by decide +kernel
set_option maxRecDepth 100000 in
theorem k_X5_read_f19 : Cond.fieldLink RX5 19 "RehearsalRoom" "saved" "LRehearsalRoom$SavedDays;" ∈ wsX5_read := by decide +kernel
set_option maxRecDepth 100000 in
theorem k_X5_read_f10 : Cond.fieldLink RX5 10 "RehearsalRoom" "day" "LRehearsalRoom$Day;" ∈ wsX5_read := by decide +kernel
set_option maxRecDepth 100000 in
theorem k_X5_read_inX4 : ∀ w ∈ u_ws RX4 TX4 5, w ∈ wsX5_read := by decide +kernel
set_option maxRecDepth 100000 in
theorem k_X5_read_f150 : Cond.fieldLink RX5 150 "RehearsalRoom$Text" "length" "I" ∈ wsX5_read := by decide +kernel
set_option maxRecDepth 100000 in
theorem k_X5_read_inX1 : ∀ w ∈ u_ws RX1 TX1 6, w ∈ wsX5_read := by decide +kernel
set_option maxRecDepth 100000 in
theorem k_X5_read_f71 : Cond.fieldLink RX5 71 "RehearsalRoom$Day" "count" "I" ∈ wsX5_read := by decide +kernel
set_option maxHeartbeats 8000000 in
set_option maxRecDepth 100000 in
theorem cx_X5_read (l : Launch) (hst : l.stackTraces = false) (G : mG) (qm : Nat) (qd : Nat) (qs : Nat) (qn : Nat) (qk : Nat) (qt : Nat) (qr : Nat) (qx : Nat) (qdb : Nat) (qde : Nat) (qdf : Nat) (qsa : Nat) (qs0 : Nat) (qs0b : Nat) (qs0e : Nat) (qs0f : Nat) (qs1 : Nat) (qs1b : Nat) (qs1e : Nat) (qs1f : Nat) (qs2 : Nat) (qs2b : Nat) (qs2e : Nat) (qs2f : Nat) (qs3 : Nat) (qs3b : Nat) (qs3e : Nat) (qs3f : Nat) (qs4 : Nat) (qs4b : Nat) (qs4e : Nat) (qs4f : Nat) (qs5 : Nat) (qs5b : Nat) (qs5e : Nat) (qs5f : Nat) (qtc : Nat) (qtn : Nat) (db : Nat → Int32) (de : Nat → Int32) (df : Nat → Int32) (dc : Int32) (dp : Int32) (dk : Int32) (so : Int32) (sn : Int32) (sb : Nat → Nat → Int32) (se : Nat → Nat → Int32) (sf : Nat → Nat → Int32) (sc : Nat → Int32) (sp : Nat → Int32) (sk : Nat → Int32) (tc : Nat → Int32) (tl : Int32) (tn : Nat → Int32) (tf : Int32) (tv : Int32) {Q : Int32 → (Nat → Int32) → (Nat → Int32) → (Nat → Int32) → Int32 → Int32 → Int32 → (Nat → Nat → Int32) → (Nat → Nat → Int32) → (Nat → Nat → Int32) → (Nat → Int32) → (Nat → Int32) → (Nat → Int32) → Int32 → (Nat → Int32) → Int32 → Int32 → Prop} {X : String → (Nat → Int32) → (Nat → Int32) → (Nat → Int32) → Int32 → Int32 → Int32 → (Nat → Nat → Int32) → (Nat → Nat → Int32) → (Nat → Nat → Int32) → (Nat → Int32) → (Nat → Int32) → (Nat → Int32) → Int32 → (Nat → Int32) → Int32 → Int32 → Prop} (hw : wx_X5_read db de df dc dp dk so sn sb se sf sc sp sk tc tl tn tf tv Q X) (sz : Nat) :
    vx_Met l yX5_read wsX5_read ({ frames := 7, cells := 1, slots := 6, locals := 111 } : Room) (va_Pc [.ref qm] (mPre G (w0_X5_read G qm qd qs qn qk qt qr qx qdb qde qdf qsa qs0 qs0b qs0e qs0f qs1 qs1b qs1e qs1f qs2 qs2b qs2e qs2f qs3 qs3b qs3e qs3f qs4 qs4b qs4e qs4f qs5 qs5b qs5e qs5f qtc qtn db de df dc dp dk so sn sb se sf sc sp sk tc tl tn tf tv) sz)) (va_Qi (fun (r : Int32) (u : (Nat → Int32) × (Nat → Int32) × (Nat → Int32) × Int32 × Int32 × Int32 × (Nat → Nat → Int32) × (Nat → Nat → Int32) × (Nat → Nat → Int32) × (Nat → Int32) × (Nat → Int32) × (Nat → Int32) × Int32 × (Nat → Int32) × Int32 × Int32) => Q r u.1 u.2.1 u.2.2.1 u.2.2.2.1 u.2.2.2.2.1 u.2.2.2.2.2.1 u.2.2.2.2.2.2.1 u.2.2.2.2.2.2.2.1 u.2.2.2.2.2.2.2.2.1 u.2.2.2.2.2.2.2.2.2.1 u.2.2.2.2.2.2.2.2.2.2.1 u.2.2.2.2.2.2.2.2.2.2.2.1 u.2.2.2.2.2.2.2.2.2.2.2.2.1 u.2.2.2.2.2.2.2.2.2.2.2.2.2.1 u.2.2.2.2.2.2.2.2.2.2.2.2.2.2.1 u.2.2.2.2.2.2.2.2.2.2.2.2.2.2.2) (mBk G (va_A (w0_X5_read G qm qd qs qn qk qt qr qx qdb qde qdf qsa qs0 qs0b qs0e qs0f qs1 qs1b qs1e qs1f qs2 qs2b qs2e qs2f qs3 qs3b qs3e qs3f qs4 qs4b qs4e qs4f qs5 qs5b qs5e qs5f qtc qtn db de df dc dp dk so sn sb se sf sc sp sk tc tl tn tf tv) sz) (fun (u : (Nat → Int32) × (Nat → Int32) × (Nat → Int32) × Int32 × Int32 × Int32 × (Nat → Nat → Int32) × (Nat → Nat → Int32) × (Nat → Nat → Int32) × (Nat → Int32) × (Nat → Int32) × (Nat → Int32) × Int32 × (Nat → Int32) × Int32 × Int32) => (w0_X5_read G qm qd qs qn qk qt qr qx qdb qde qdf qsa qs0 qs0b qs0e qs0f qs1 qs1b qs1e qs1f qs2 qs2b qs2e qs2f qs3 qs3b qs3e qs3f qs4 qs4b qs4e qs4f qs5 qs5b qs5e qs5f qtc qtn u.1 u.2.1 u.2.2.1 u.2.2.2.1 dp dk u.2.2.2.2.1 u.2.2.2.2.2.1 u.2.2.2.2.2.2.1 u.2.2.2.2.2.2.2.1 u.2.2.2.2.2.2.2.2.1 u.2.2.2.2.2.2.2.2.2.1 u.2.2.2.2.2.2.2.2.2.2.1 u.2.2.2.2.2.2.2.2.2.2.2.1 tc u.2.2.2.2.2.2.2.2.2.2.2.2.1 u.2.2.2.2.2.2.2.2.2.2.2.2.2.1 u.2.2.2.2.2.2.2.2.2.2.2.2.2.2.1 u.2.2.2.2.2.2.2.2.2.2.2.2.2.2.2))) (va_A (w0_X5_read G qm qd qs qn qk qt qr qx qdb qde qdf qsa qs0 qs0b qs0e qs0f qs1 qs1b qs1e qs1f qs2 qs2b qs2e qs2f qs3 qs3b qs3e qs3f qs4 qs4b qs4e qs4f qs5 qs5b qs5e qs5f qtc qtn db de df dc dp dk so sn sb se sf sc sp sk tc tl tn tf tv) sz)) (vx_X (fun _ => True) (fun E u t => (fun (E : String) (u : (Nat → Int32) × (Nat → Int32) × (Nat → Int32) × Int32 × Int32 × Int32 × (Nat → Nat → Int32) × (Nat → Nat → Int32) × (Nat → Nat → Int32) × (Nat → Int32) × (Nat → Int32) × (Nat → Int32) × Int32 × (Nat → Int32) × Int32 × Int32) => X E u.1 u.2.1 u.2.2.1 u.2.2.2.1 u.2.2.2.2.1 u.2.2.2.2.2.1 u.2.2.2.2.2.2.1 u.2.2.2.2.2.2.2.1 u.2.2.2.2.2.2.2.2.1 u.2.2.2.2.2.2.2.2.2.1 u.2.2.2.2.2.2.2.2.2.2.1 u.2.2.2.2.2.2.2.2.2.2.2.1 u.2.2.2.2.2.2.2.2.2.2.2.2.1 u.2.2.2.2.2.2.2.2.2.2.2.2.2.1 u.2.2.2.2.2.2.2.2.2.2.2.2.2.2.1 u.2.2.2.2.2.2.2.2.2.2.2.2.2.2.2) E u ∧ mBk G (va_A (w0_X5_read G qm qd qs qn qk qt qr qx qdb qde qdf qsa qs0 qs0b qs0e qs0f qs1 qs1b qs1e qs1f qs2 qs2b qs2e qs2f qs3 qs3b qs3e qs3f qs4 qs4b qs4e qs4f qs5 qs5b qs5e qs5f qtc qtn db de df dc dp dk so sn sb se sf sc sp sk tc tl tn tf tv) sz) (fun (u : (Nat → Int32) × (Nat → Int32) × (Nat → Int32) × Int32 × Int32 × Int32 × (Nat → Nat → Int32) × (Nat → Nat → Int32) × (Nat → Nat → Int32) × (Nat → Int32) × (Nat → Int32) × (Nat → Int32) × Int32 × (Nat → Int32) × Int32 × Int32) => (w0_X5_read G qm qd qs qn qk qt qr qx qdb qde qdf qsa qs0 qs0b qs0e qs0f qs1 qs1b qs1e qs1f qs2 qs2b qs2e qs2f qs3 qs3b qs3e qs3f qs4 qs4b qs4e qs4f qs5 qs5b qs5e qs5f qtc qtn u.1 u.2.1 u.2.2.1 u.2.2.2.1 dp dk u.2.2.2.2.1 u.2.2.2.2.2.1 u.2.2.2.2.2.2.1 u.2.2.2.2.2.2.2.1 u.2.2.2.2.2.2.2.2.1 u.2.2.2.2.2.2.2.2.2.1 u.2.2.2.2.2.2.2.2.2.2.1 u.2.2.2.2.2.2.2.2.2.2.2.1 tc u.2.2.2.2.2.2.2.2.2.2.2.2.1 u.2.2.2.2.2.2.2.2.2.2.2.2.2.1 u.2.2.2.2.2.2.2.2.2.2.2.2.2.2.1 u.2.2.2.2.2.2.2.2.2.2.2.2.2.2.2)) u t) (va_A (w0_X5_read G qm qd qs qn qk qt qr qx qdb qde qdf qsa qs0 qs0b qs0e qs0f qs1 qs1b qs1e qs1f qs2 qs2b qs2e qs2f qs3 qs3b qs3e qs3f qs4 qs4b qs4e qs4f qs5 qs5b qs5e qs5f qtc qtn db de df dc dp dk so sn sb se sf sc sp sk tc tl tn tf tv) sz)) 1 6 (va_A (w0_X5_read G qm qd qs qn qk qt qr qx qdb qde qdf qsa qs0 qs0b qs0e qs0f qs1 qs1b qs1e qs1f qs2 qs2b qs2e qs2f qs3 qs3b qs3e qs3f qs4 qs4b qs4e qs4f qs5 qs5b qs5e qs5f qtc qtn db de df dc dp dk so sn sb se sf sc sp sk tc tl tn tf tv) sz) := by
  refine mx_i (cc := cX5_read) (maxL := 2) (ret := some .int) (post := (fun (r : Int32) (u : (Nat → Int32) × (Nat → Int32) × (Nat → Int32) × Int32 × Int32 × Int32 × (Nat → Nat → Int32) × (Nat → Nat → Int32) × (Nat → Nat → Int32) × (Nat → Int32) × (Nat → Int32) × (Nat → Int32) × Int32 × (Nat → Int32) × Int32 × Int32) => Q r u.1 u.2.1 u.2.2.1 u.2.2.2.1 u.2.2.2.2.1 u.2.2.2.2.2.1 u.2.2.2.2.2.2.1 u.2.2.2.2.2.2.2.1 u.2.2.2.2.2.2.2.2.1 u.2.2.2.2.2.2.2.2.2.1 u.2.2.2.2.2.2.2.2.2.2.1 u.2.2.2.2.2.2.2.2.2.2.2.1 u.2.2.2.2.2.2.2.2.2.2.2.2.1 u.2.2.2.2.2.2.2.2.2.2.2.2.2.1 u.2.2.2.2.2.2.2.2.2.2.2.2.2.2.1 u.2.2.2.2.2.2.2.2.2.2.2.2.2.2.2)) (w1 := (fun (u : (Nat → Int32) × (Nat → Int32) × (Nat → Int32) × Int32 × Int32 × Int32 × (Nat → Nat → Int32) × (Nat → Nat → Int32) × (Nat → Nat → Int32) × (Nat → Int32) × (Nat → Int32) × (Nat → Int32) × Int32 × (Nat → Int32) × Int32 × Int32) => (w0_X5_read G qm qd qs qn qk qt qr qx qdb qde qdf qsa qs0 qs0b qs0e qs0f qs1 qs1b qs1e qs1f qs2 qs2b qs2e qs2f qs3 qs3b qs3e qs3f qs4 qs4b qs4e qs4f qs5 qs5b qs5e qs5f qtc qtn u.1 u.2.1 u.2.2.1 u.2.2.2.1 dp dk u.2.2.2.2.1 u.2.2.2.2.2.1 u.2.2.2.2.2.2.1 u.2.2.2.2.2.2.2.1 u.2.2.2.2.2.2.2.2.1 u.2.2.2.2.2.2.2.2.2.1 u.2.2.2.2.2.2.2.2.2.2.1 u.2.2.2.2.2.2.2.2.2.2.2.1 tc u.2.2.2.2.2.2.2.2.2.2.2.2.1 u.2.2.2.2.2.2.2.2.2.2.2.2.2.1 u.2.2.2.2.2.2.2.2.2.2.2.2.2.2.1 u.2.2.2.2.2.2.2.2.2.2.2.2.2.2.2))) (px := (fun (E : String) (u : (Nat → Int32) × (Nat → Int32) × (Nat → Int32) × Int32 × Int32 × Int32 × (Nat → Nat → Int32) × (Nat → Nat → Int32) × (Nat → Nat → Int32) × (Nat → Int32) × (Nat → Int32) × (Nat → Int32) × Int32 × (Nat → Int32) × Int32 × Int32) => X E u.1 u.2.1 u.2.2.1 u.2.2.2.1 u.2.2.2.2.1 u.2.2.2.2.2.1 u.2.2.2.2.2.2.1 u.2.2.2.2.2.2.2.1 u.2.2.2.2.2.2.2.2.1 u.2.2.2.2.2.2.2.2.2.1 u.2.2.2.2.2.2.2.2.2.2.1 u.2.2.2.2.2.2.2.2.2.2.2.1 u.2.2.2.2.2.2.2.2.2.2.2.2.1 u.2.2.2.2.2.2.2.2.2.2.2.2.2.1 u.2.2.2.2.2.2.2.2.2.2.2.2.2.2.1 u.2.2.2.2.2.2.2.2.2.2.2.2.2.2.2)) (by decide) rfl (Nat.le_of_ble_eq_true rfl) ?_ sz
  intro p e s m below meth c A ls H locs hx hb hr hml hown hts hlocks hnt hK hG hP hD hS hA hl
  have hown : s.vm.findClass RX5 = some m.cls := hown
  have hl : lv_has ls 2 [(0, .ref qm)] := hl
  have J20 : ∀ (db : Nat → Int32) (de : Nat → Int32) (df : Nat → Int32) (dc : Int32) (so : Int32) (sn : Int32) (sb : Nat → Nat → Int32) (se : Nat → Nat → Int32) (sf : Nat → Nat → Int32) (sc : Nat → Int32) (sp : Nat → Int32) (sk : Nat → Int32) (tl : Int32) (tn : Nat → Int32) (tf : Int32) (tv : Int32) (H : Heap) (locs : List Loc) (ls : Array Slot), va_P (gD G) vwCl (w0_X5_read G qm qd qs qn qk qt qr qx qdb qde qdf qsa qs0 qs0b qs0e qs0f qs1 qs1b qs1e qs1f qs2 qs2b qs2e qs2f qs3 qs3b qs3e qs3f qs4 qs4b qs4e qs4f qs5 qs5b qs5e qs5f qtc qtn db de df dc dp dk so sn sb se sf sc sp sk tc tl tn tf tv) H → va_D A (w0_X5_read G qm qd qs qn qk qt qr qx qdb qde qdf qsa qs0 qs0b qs0e qs0f qs1 qs1b qs1e qs1f qs2 qs2b qs2e qs2f qs3 qs3b qs3e qs3f qs4 qs4b qs4e qs4f qs5 qs5b qs5e qs5f qtc qtn db de df dc dp dk so sn sb se sf sc sp sk tc tl tn tf tv) → va_S A s.heap H locs → lv_has ls 2 [(0, .ref qm)] → wj_x_X5_read_20 dp dk tc Q X db de df dc so sn sb se sf sc sp sk tl tn tf tv → W p l e ({ frames := 7, cells := 1, slots := 6, locals := 111 } : Room) s m ([.ref qm] : List Value).toArray below meth c H locs 0 0 (vx_MQ below (va_Qi (fun (r : Int32) (u : (Nat → Int32) × (Nat → Int32) × (Nat → Int32) × Int32 × Int32 × Int32 × (Nat → Nat → Int32) × (Nat → Nat → Int32) × (Nat → Nat → Int32) × (Nat → Int32) × (Nat → Int32) × (Nat → Int32) × Int32 × (Nat → Int32) × Int32 × Int32) => Q r u.1 u.2.1 u.2.2.1 u.2.2.2.1 u.2.2.2.2.1 u.2.2.2.2.2.1 u.2.2.2.2.2.2.1 u.2.2.2.2.2.2.2.1 u.2.2.2.2.2.2.2.2.1 u.2.2.2.2.2.2.2.2.2.1 u.2.2.2.2.2.2.2.2.2.2.1 u.2.2.2.2.2.2.2.2.2.2.2.1 u.2.2.2.2.2.2.2.2.2.2.2.2.1 u.2.2.2.2.2.2.2.2.2.2.2.2.2.1 u.2.2.2.2.2.2.2.2.2.2.2.2.2.2.1 u.2.2.2.2.2.2.2.2.2.2.2.2.2.2.2) (mBk G A (fun (u : (Nat → Int32) × (Nat → Int32) × (Nat → Int32) × Int32 × Int32 × Int32 × (Nat → Nat → Int32) × (Nat → Nat → Int32) × (Nat → Nat → Int32) × (Nat → Int32) × (Nat → Int32) × (Nat → Int32) × Int32 × (Nat → Int32) × Int32 × Int32) => (w0_X5_read G qm qd qs qn qk qt qr qx qdb qde qdf qsa qs0 qs0b qs0e qs0f qs1 qs1b qs1e qs1f qs2 qs2b qs2e qs2f qs3 qs3b qs3e qs3f qs4 qs4b qs4e qs4f qs5 qs5b qs5e qs5f qtc qtn u.1 u.2.1 u.2.2.1 u.2.2.2.1 dp dk u.2.2.2.2.1 u.2.2.2.2.2.1 u.2.2.2.2.2.2.1 u.2.2.2.2.2.2.2.1 u.2.2.2.2.2.2.2.2.1 u.2.2.2.2.2.2.2.2.2.1 u.2.2.2.2.2.2.2.2.2.2.1 u.2.2.2.2.2.2.2.2.2.2.2.1 tc u.2.2.2.2.2.2.2.2.2.2.2.2.1 u.2.2.2.2.2.2.2.2.2.2.2.2.2.1 u.2.2.2.2.2.2.2.2.2.2.2.2.2.2.1 u.2.2.2.2.2.2.2.2.2.2.2.2.2.2.2))) A) (vx_X (fun _ => True) (fun E u t => (fun (E : String) (u : (Nat → Int32) × (Nat → Int32) × (Nat → Int32) × Int32 × Int32 × Int32 × (Nat → Nat → Int32) × (Nat → Nat → Int32) × (Nat → Nat → Int32) × (Nat → Int32) × (Nat → Int32) × (Nat → Int32) × Int32 × (Nat → Int32) × Int32 × Int32) => X E u.1 u.2.1 u.2.2.1 u.2.2.2.1 u.2.2.2.2.1 u.2.2.2.2.2.1 u.2.2.2.2.2.2.1 u.2.2.2.2.2.2.2.1 u.2.2.2.2.2.2.2.2.1 u.2.2.2.2.2.2.2.2.2.1 u.2.2.2.2.2.2.2.2.2.2.1 u.2.2.2.2.2.2.2.2.2.2.2.1 u.2.2.2.2.2.2.2.2.2.2.2.2.1 u.2.2.2.2.2.2.2.2.2.2.2.2.2.1 u.2.2.2.2.2.2.2.2.2.2.2.2.2.2.1 u.2.2.2.2.2.2.2.2.2.2.2.2.2.2.2) E u ∧ mBk G A (fun (u : (Nat → Int32) × (Nat → Int32) × (Nat → Int32) × Int32 × Int32 × Int32 × (Nat → Nat → Int32) × (Nat → Nat → Int32) × (Nat → Nat → Int32) × (Nat → Int32) × (Nat → Int32) × (Nat → Int32) × Int32 × (Nat → Int32) × Int32 × Int32) => (w0_X5_read G qm qd qs qn qk qt qr qx qdb qde qdf qsa qs0 qs0b qs0e qs0f qs1 qs1b qs1e qs1f qs2 qs2b qs2e qs2f qs3 qs3b qs3e qs3f qs4 qs4b qs4e qs4f qs5 qs5b qs5e qs5f qtc qtn u.1 u.2.1 u.2.2.1 u.2.2.2.1 dp dk u.2.2.2.2.1 u.2.2.2.2.2.1 u.2.2.2.2.2.2.1 u.2.2.2.2.2.2.2.1 u.2.2.2.2.2.2.2.2.1 u.2.2.2.2.2.2.2.2.2.1 u.2.2.2.2.2.2.2.2.2.2.1 u.2.2.2.2.2.2.2.2.2.2.2.1 tc u.2.2.2.2.2.2.2.2.2.2.2.2.1 u.2.2.2.2.2.2.2.2.2.2.2.2.2.1 u.2.2.2.2.2.2.2.2.2.2.2.2.2.2.1 u.2.2.2.2.2.2.2.2.2.2.2.2.2.2.2)) u t) A) ([.ref qm] : List Value).toArray s 1 6 A) (F0 m 20 ls []) := by
    intro db de df dc so sn sb se sf sc sp sk tl tn tf tv H locs ls hP hD hS hl hw
    unfold wj_x_X5_read_20 at hw
    exact kth (nL := 2) "the buffer does not tell rehearsals" (db, de, df, dc, so, sn, sb, se, sf, sc, sp, sk, tl, tn, tf, tv) hx hb hst hown hts hG hnt hlocks hml hl.1 hK hS hP hD hw ⟨by decide +kernel, by decide +kernel⟩ (by decide +kernel) k_X5_read_l110 k_X5_read_i110 k_X5_read_a114 tnb_114 tgd_114 dX5_read_20 dX5_read_23 dX5_read_29 ⟨dX5_read_24, dX5_read_26⟩ ⟨by decide, by decide, by decide, by decide⟩ (Nat.le_of_ble_eq_true rfl) (Nat.le_of_ble_eq_true rfl)
  have J54 : ∀ (n : Nat) (db : Nat → Int32) (de : Nat → Int32) (df : Nat → Int32) (dc : Int32) (so : Int32) (sn : Int32) (sb : Nat → Nat → Int32) (se : Nat → Nat → Int32) (sf : Nat → Nat → Int32) (sc : Nat → Int32) (sp : Nat → Int32) (sk : Nat → Int32) (tl : Int32) (tn : Nat → Int32) (tf : Int32) (tv : Int32) (x1 : Int32) (H : Heap) (locs : List Loc) (ls : Array Slot), va_P (gD G) vwCl (w0_X5_read G qm qd qs qn qk qt qr qx qdb qde qdf qsa qs0 qs0b qs0e qs0f qs1 qs1b qs1e qs1f qs2 qs2b qs2e qs2f qs3 qs3b qs3e qs3f qs4 qs4b qs4e qs4f qs5 qs5b qs5e qs5f qtc qtn db de df dc dp dk so sn sb se sf sc sp sk tc tl tn tf tv) H → va_D A (w0_X5_read G qm qd qs qn qk qt qr qx qdb qde qdf qsa qs0 qs0b qs0e qs0f qs1 qs1b qs1e qs1f qs2 qs2b qs2e qs2f qs3 qs3b qs3e qs3f qs4 qs4b qs4e qs4f qs5 qs5b qs5e qs5f qtc qtn db de df dc dp dk so sn sb se sf sc sp sk tc tl tn tf tv) → va_S A s.heap H locs → lv_has ls 2 [(0, .ref qm), (1, .int x1)] → wl_x_X5_read_54 dp dk tc Q X n db de df dc so sn sb se sf sc sp sk tl tn tf tv x1 → W p l e ({ frames := 7, cells := 1, slots := 6, locals := 111 } : Room) s m ([.ref qm] : List Value).toArray below meth c H locs 1 6 (vx_MQ below (va_Qi (fun (r : Int32) (u : (Nat → Int32) × (Nat → Int32) × (Nat → Int32) × Int32 × Int32 × Int32 × (Nat → Nat → Int32) × (Nat → Nat → Int32) × (Nat → Nat → Int32) × (Nat → Int32) × (Nat → Int32) × (Nat → Int32) × Int32 × (Nat → Int32) × Int32 × Int32) => Q r u.1 u.2.1 u.2.2.1 u.2.2.2.1 u.2.2.2.2.1 u.2.2.2.2.2.1 u.2.2.2.2.2.2.1 u.2.2.2.2.2.2.2.1 u.2.2.2.2.2.2.2.2.1 u.2.2.2.2.2.2.2.2.2.1 u.2.2.2.2.2.2.2.2.2.2.1 u.2.2.2.2.2.2.2.2.2.2.2.1 u.2.2.2.2.2.2.2.2.2.2.2.2.1 u.2.2.2.2.2.2.2.2.2.2.2.2.2.1 u.2.2.2.2.2.2.2.2.2.2.2.2.2.2.1 u.2.2.2.2.2.2.2.2.2.2.2.2.2.2.2) (mBk G A (fun (u : (Nat → Int32) × (Nat → Int32) × (Nat → Int32) × Int32 × Int32 × Int32 × (Nat → Nat → Int32) × (Nat → Nat → Int32) × (Nat → Nat → Int32) × (Nat → Int32) × (Nat → Int32) × (Nat → Int32) × Int32 × (Nat → Int32) × Int32 × Int32) => (w0_X5_read G qm qd qs qn qk qt qr qx qdb qde qdf qsa qs0 qs0b qs0e qs0f qs1 qs1b qs1e qs1f qs2 qs2b qs2e qs2f qs3 qs3b qs3e qs3f qs4 qs4b qs4e qs4f qs5 qs5b qs5e qs5f qtc qtn u.1 u.2.1 u.2.2.1 u.2.2.2.1 dp dk u.2.2.2.2.1 u.2.2.2.2.2.1 u.2.2.2.2.2.2.1 u.2.2.2.2.2.2.2.1 u.2.2.2.2.2.2.2.2.1 u.2.2.2.2.2.2.2.2.2.1 u.2.2.2.2.2.2.2.2.2.2.1 u.2.2.2.2.2.2.2.2.2.2.2.1 tc u.2.2.2.2.2.2.2.2.2.2.2.2.1 u.2.2.2.2.2.2.2.2.2.2.2.2.2.1 u.2.2.2.2.2.2.2.2.2.2.2.2.2.2.1 u.2.2.2.2.2.2.2.2.2.2.2.2.2.2.2))) A) (vx_X (fun _ => True) (fun E u t => (fun (E : String) (u : (Nat → Int32) × (Nat → Int32) × (Nat → Int32) × Int32 × Int32 × Int32 × (Nat → Nat → Int32) × (Nat → Nat → Int32) × (Nat → Nat → Int32) × (Nat → Int32) × (Nat → Int32) × (Nat → Int32) × Int32 × (Nat → Int32) × Int32 × Int32) => X E u.1 u.2.1 u.2.2.1 u.2.2.2.1 u.2.2.2.2.1 u.2.2.2.2.2.1 u.2.2.2.2.2.2.1 u.2.2.2.2.2.2.2.1 u.2.2.2.2.2.2.2.2.1 u.2.2.2.2.2.2.2.2.2.1 u.2.2.2.2.2.2.2.2.2.2.1 u.2.2.2.2.2.2.2.2.2.2.2.1 u.2.2.2.2.2.2.2.2.2.2.2.2.1 u.2.2.2.2.2.2.2.2.2.2.2.2.2.1 u.2.2.2.2.2.2.2.2.2.2.2.2.2.2.1 u.2.2.2.2.2.2.2.2.2.2.2.2.2.2.2) E u ∧ mBk G A (fun (u : (Nat → Int32) × (Nat → Int32) × (Nat → Int32) × Int32 × Int32 × Int32 × (Nat → Nat → Int32) × (Nat → Nat → Int32) × (Nat → Nat → Int32) × (Nat → Int32) × (Nat → Int32) × (Nat → Int32) × Int32 × (Nat → Int32) × Int32 × Int32) => (w0_X5_read G qm qd qs qn qk qt qr qx qdb qde qdf qsa qs0 qs0b qs0e qs0f qs1 qs1b qs1e qs1f qs2 qs2b qs2e qs2f qs3 qs3b qs3e qs3f qs4 qs4b qs4e qs4f qs5 qs5b qs5e qs5f qtc qtn u.1 u.2.1 u.2.2.1 u.2.2.2.1 dp dk u.2.2.2.2.1 u.2.2.2.2.2.1 u.2.2.2.2.2.2.1 u.2.2.2.2.2.2.2.1 u.2.2.2.2.2.2.2.2.1 u.2.2.2.2.2.2.2.2.2.1 u.2.2.2.2.2.2.2.2.2.2.1 u.2.2.2.2.2.2.2.2.2.2.2.1 tc u.2.2.2.2.2.2.2.2.2.2.2.2.1 u.2.2.2.2.2.2.2.2.2.2.2.2.2.1 u.2.2.2.2.2.2.2.2.2.2.2.2.2.2.1 u.2.2.2.2.2.2.2.2.2.2.2.2.2.2.2)) u t) A) ([.ref qm] : List Value).toArray s 1 6 A) (F0 m 54 ls []) := by
    intro n
    induction n with
    | zero => intro db de df dc so sn sb se sf sc sp sk tl tn tf tv x1 H locs ls hP hD hS hl hw; exact False.elim hw
    | succ n ih =>
      intro db de df dc so sn sb se sf sc sp sk tl tn tf tv x1 H locs ls hP hD hS hl hw
      rw [wl_x_X5_read_54] at hw
      refine lv_iload_n hx hb dX5_read_54 rfl (lv_at hl 1 rfl) ?_
      refine lv_aload_n hx hb dX5_read_55 rfl (lv_at hl 0 rfl) ?_
      refine va_get (D := gD G) (ci := 5) (v := .ref qt) (C := RX5) (T := TX5) (N := 7) hx hb hts k_X5_read_inX5 hown hK hP 0 rfl rfl 4 (by decide) (hts _ k_X5_read_f34) (fun _ h9 => h9) rfl dX5_read_56 ?_
      refine kcR_i (kr_V [.int x1] ⟨hx, hb, hml, hown, hts⟩ (cn_X4_parts l G qt qtc qtn tc tl tn tf tv hw H.size) (cwV 0 hts gX5_read_X4_parts rfl rfl rfl (by decide +kernel) ⟨Nat.le_of_ble_eq_true rfl, Nat.le_of_ble_eq_true rfl⟩) hK hG hP hD hS hA [31, 32, 33] rfl rfl 4 31 rfl rfl rfl hl.1 rfl (Nat.le_of_ble_eq_true rfl) dX5_read_59 ⟨Nat.le_of_ble_eq_true rfl, Nat.le_of_ble_eq_true rfl⟩) hP hD hS hA [31, 32, 33] rfl (fun r17 u H locs hw hP hS => ?_)
      try dsimp only at hw
      refine lv_icmp_ge (tgt := 102) hx hb dX5_read_62 (by decide) (fun cd18 => ?_) (fun cd18 => ?_)
      · have hw := hw.1 cd18
        refine lv_aload_n hx hb dX5_read_102 rfl (lv_at hl 0 rfl) ?_
        refine va_get (D := gD G) (ci := 5) (v := .ref qt) (C := RX5) (T := TX5) (N := 7) hx hb hts k_X5_read_inX5 hown hK hP 0 rfl rfl 4 (by decide) (hts _ k_X5_read_f34) (fun _ h9 => h9) rfl dX5_read_103 ?_
        refine lv_iconst (v := 0) hx hb dX5_read_106 (by decide) ?_
        refine va_put (D := gD G) (ci := 4) (v := .int (0 : Int32)) (ty := .int) (C := RX4) (T := TX4) (N := 5) hx hb hts k_X5_read_inX4 tyX4 tyX4_ok nmX4 hown hK hP hD hS 31 rfl rfl 1 (by decide) (hts _ k_X5_read_f150) (fun _ h9 => h9) rfl (by decide +kernel) rfl rfl (Nat.le_of_ble_eq_true rfl) dX5_read_107 (fun H locs hP hD hS => ?_)
        have hP : va_P (gD G) vwCl (w0_X5_read G qm qd qs qn qk qt qr qx qdb qde qdf qsa qs0 qs0b qs0e qs0f qs1 qs1b qs1e qs1f qs2 qs2b qs2e qs2f qs3 qs3b qs3e qs3f qs4 qs4b qs4e qs4f qs5 qs5b qs5e qs5f qtc qtn db de df dc dp dk so sn sb se sf sc sp sk tc (0 : Int32) tn tf tv) H := hP
        have hD : va_D A (w0_X5_read G qm qd qs qn qk qt qr qx qdb qde qdf qsa qs0 qs0b qs0e qs0f qs1 qs1b qs1e qs1f qs2 qs2b qs2e qs2f qs3 qs3b qs3e qs3f qs4 qs4b qs4e qs4f qs5 qs5b qs5e qs5f qtc qtn db de df dc dp dk so sn sb se sf sc sp sk tc (0 : Int32) tn tf tv) := hD
        refine lv_aload_n hx hb dX5_read_110 rfl (lv_at hl 0 rfl) ?_
        refine va_get (D := gD G) (ci := 5) (v := .ref qd) (C := RX5) (T := TX5) (N := 7) hx hb hts k_X5_read_inX5 hown hK hP 0 rfl rfl 0 (by decide) (hts _ k_X5_read_f10) (fun _ h9 => h9) rfl dX5_read_111 ?_
        refine va_get (D := gD G) (ci := 1) (v := .int dc) (C := RX1) (T := TX1) (N := 6) hx hb hts k_X5_read_inX1 hown hK hP 1 rfl rfl 3 (by decide) (hts _ k_X5_read_f71) (fun _ h9 => h9) rfl dX5_read_114 ?_
        exact fin_x (Nat.le_of_ble_eq_true rfl) (Nat.le_of_ble_eq_true rfl) (fin_i (db, de, df, dc, so, sn, sb, se, sf, sc, sp, sk, (0 : Int32), tn, tf, tv) hx hb hr hlocks hK hS hP hD hw dX5_read_117)
      · have hw := hw.2 cd18
        refine lv_aload_n hx hb dX5_read_65 rfl (lv_at hl 0 rfl) ?_
        refine va_get (D := gD G) (ci := 5) (v := .ref qd) (C := RX5) (T := TX5) (N := 7) hx hb hts k_X5_read_inX5 hown hK hP 0 rfl rfl 0 (by decide) (hts _ k_X5_read_f10) (fun _ h9 => h9) rfl dX5_read_66 ?_
        refine lv_aload_n hx hb dX5_read_69 rfl (lv_at hl 0 rfl) ?_
        refine va_get (D := gD G) (ci := 5) (v := .ref qt) (C := RX5) (T := TX5) (N := 7) hx hb hts k_X5_read_inX5 hown hK hP 0 rfl rfl 4 (by decide) (hts _ k_X5_read_f34) (fun _ h9 => h9) rfl dX5_read_70 ?_
        refine lv_iload_n hx hb dX5_read_73 rfl (lv_at hl 1 rfl) ?_
        refine kcR_i (kr_V [.ref qd] ⟨hx, hb, hml, hown, hts⟩ (cn_X4_beginIn l G qt qtc qtn tc tl tn tf tv x1 hw H.size) (cwV 1 hts gX5_read_X4_beginIn rfl rfl rfl (by decide +kernel) ⟨Nat.le_of_ble_eq_true rfl, Nat.le_of_ble_eq_true rfl⟩) hK hG hP hD hS hA [31, 32, 33] rfl rfl 4 31 rfl rfl rfl hl.1 rfl (Nat.le_of_ble_eq_true rfl) dX5_read_74 ⟨Nat.le_of_ble_eq_true rfl, Nat.le_of_ble_eq_true rfl⟩) hP hD hS hA [31, 32, 33] rfl (fun r19 u H locs hw hP hS => ?_)
        try dsimp only at hw
        refine lv_aload_n hx hb dX5_read_77 rfl (lv_at hl 0 rfl) ?_
        refine va_get (D := gD G) (ci := 5) (v := .ref qt) (C := RX5) (T := TX5) (N := 7) hx hb hts k_X5_read_inX5 hown hK hP 0 rfl rfl 4 (by decide) (hts _ k_X5_read_f34) (fun _ h9 => h9) rfl dX5_read_78 ?_
        refine lv_iload_n hx hb dX5_read_81 rfl (lv_at hl 1 rfl) ?_
        refine kcR_i (kr_V [.int r19, .ref qd] ⟨hx, hb, hml, hown, hts⟩ (cn_X4_endIn l G qt qtc qtn tc tl tn tf tv x1 hw H.size) (cwV 1 hts gX5_read_X4_endIn rfl rfl rfl (by decide +kernel) ⟨Nat.le_of_ble_eq_true rfl, Nat.le_of_ble_eq_true rfl⟩) hK hG hP hD hS hA [31, 32, 33] rfl rfl 4 31 rfl rfl rfl hl.1 rfl (Nat.le_of_ble_eq_true rfl) dX5_read_82 ⟨Nat.le_of_ble_eq_true rfl, Nat.le_of_ble_eq_true rfl⟩) hP hD hS hA [31, 32, 33] rfl (fun r20 u H locs hw hP hS => ?_)
        try dsimp only at hw
        refine lv_aload_n hx hb dX5_read_85 rfl (lv_at hl 0 rfl) ?_
        refine va_get (D := gD G) (ci := 5) (v := .ref qt) (C := RX5) (T := TX5) (N := 7) hx hb hts k_X5_read_inX5 hown hK hP 0 rfl rfl 4 (by decide) (hts _ k_X5_read_f34) (fun _ h9 => h9) rfl dX5_read_86 ?_
        refine lv_iload_n hx hb dX5_read_89 rfl (lv_at hl 1 rfl) ?_
        refine kcR_i (kr_V [.int r20, .int r19, .ref qd] ⟨hx, hb, hml, hown, hts⟩ (cn_X4_fameIn l G qt qtc qtn tc tl tn tf tv x1 hw H.size) (cwV 1 hts gX5_read_X4_fameIn rfl rfl rfl (by decide +kernel) ⟨Nat.le_of_ble_eq_true rfl, Nat.le_of_ble_eq_true rfl⟩) hK hG hP hD hS hA [31, 32, 33] rfl rfl 4 31 rfl rfl rfl hl.1 rfl (Nat.le_of_ble_eq_true rfl) dX5_read_90 ⟨Nat.le_of_ble_eq_true rfl, Nat.le_of_ble_eq_true rfl⟩) hP hD hS hA [31, 32, 33] rfl (fun r21 u H locs hw hP hS => ?_)
        try dsimp only at hw
        refine kc_v (kr_V [] ⟨hx, hb, hml, hown, hts⟩ (cn_X1_takeOn l G qd qdb qde qdf db de df dc dp dk r19 r20 r21 hw H.size) (cwV 3 hts gX5_read_X1_takeOn rfl rfl rfl (by decide +kernel) ⟨Nat.le_of_ble_eq_true rfl, Nat.le_of_ble_eq_true rfl⟩) hK hG hP hD hS hA [1, 2, 3, 4] rfl rfl 1 1 rfl rfl rfl hl.1 rfl (Nat.le_of_ble_eq_true rfl) dX5_read_93 ⟨Nat.le_of_ble_eq_true rfl, Nat.le_of_ble_eq_true rfl⟩) hP hD hS hA [1, 2, 3, 4] [0, 5, 6, 7, 8, 9, 10, 11, 12, 13, 14, 15, 16, 17, 18, 19, 20, 21, 22, 23, 24, 25, 26, 27, 28, 29, 30, 31, 32, 33] rfl rfl rfl (by decide) (fun u H locs hw hP hD hS => ?_)
        obtain ⟨db_22, de_23, df_24, dc_25⟩ := u
        try dsimp only at hw
        have hP := hP.sub (ws' := (w0_X5_read G qm qd qs qn qk qt qr qx qdb qde qdf qsa qs0 qs0b qs0e qs0f qs1 qs1b qs1e qs1f qs2 qs2b qs2e qs2f qs3 qs3b qs3e qs3f qs4 qs4b qs4e qs4f qs5 qs5b qs5e qs5f qtc qtn db_22 de_23 df_24 dc_25 dp dk so sn sb se sf sc sp sk tc tl tn tf tv)) [0, 30, 31, 32, 33, 1, 2, 3, 4, 5, 6, 7, 8, 9, 10, 11, 12, 13, 14, 15, 16, 17, 18, 19, 20, 21, 22, 23, 24, 25, 26, 27, 28, 29] rfl
        have hD := hD.sub (ws' := (w0_X5_read G qm qd qs qn qk qt qr qx qdb qde qdf qsa qs0 qs0b qs0e qs0f qs1 qs1b qs1e qs1f qs2 qs2b qs2e qs2f qs3 qs3b qs3e qs3f qs4 qs4b qs4e qs4f qs5 qs5b qs5e qs5f qtc qtn db_22 de_23 df_24 dc_25 dp dk so sn sb se sf sc sp sk tc tl tn tf tv)) [0, 30, 31, 32, 33, 1, 2, 3, 4, 5, 6, 7, 8, 9, 10, 11, 12, 13, 14, 15, 16, 17, 18, 19, 20, 21, 22, 23, 24, 25, 26, 27, 28, 29] rfl rfl
        refine lv_iinc (v := (x1 + 1)) (lv' := [(1, .int (x1 + 1)), (0, .ref qm)]) hx hb dX5_read_96 hl (k := 1) rfl rfl (by decide) rfl (fun ls hl => ?_)
        refine lv_goto (tgt := 54) hx hb dX5_read_99 (by decide) ?_
        exact ih db_22 de_23 df_24 dc_25 so sn sb se sf sc sp sk tl tn tf tv (x1 + 1) _ _ _ hP hD hS (lv_sub hl [1, 0] rfl) hw
  unfold wx_X5_read at hw
  refine lv_aload_n hx hb dX5_read_0 rfl (lv_at hl 0 rfl) ?_
  refine va_get (D := gD G) (ci := 5) (v := .ref qt) (C := RX5) (T := TX5) (N := 7) hx hb hts k_X5_read_inX5 hown hK hP 0 rfl rfl 4 (by decide) (hts _ k_X5_read_f34) (fun _ h9 => h9) rfl dX5_read_1 ?_
  refine kc_i (kr_V [] ⟨hx, hb, hml, hown, hts⟩ (cn_X4_tellsRehearsals l G qt qtc qtn tc tl tn tf tv hw H.size) (cwV 0 hts gX5_read_X4_tellsRehearsals rfl rfl rfl (by decide +kernel) ⟨Nat.le_of_ble_eq_true rfl, Nat.le_of_ble_eq_true rfl⟩) hK hG hP hD hS hA [31, 32, 33] rfl rfl 4 31 rfl rfl rfl hl.1 rfl (Nat.le_of_ble_eq_true rfl) dX5_read_4 ⟨Nat.le_of_ble_eq_true rfl, Nat.le_of_ble_eq_true rfl⟩) hP hD hS hA [31, 32, 33] [0, 1, 2, 3, 4, 5, 6, 7, 8, 9, 10, 11, 12, 13, 14, 15, 16, 17, 18, 19, 20, 21, 22, 23, 24, 25, 26, 27, 28, 29, 30] rfl rfl rfl (by decide) (fun r1 u H locs hw hP hD hS => ?_)
  obtain ⟨tn_2, tf_3, tv_4⟩ := u
  try dsimp only at hw
  have hP := hP.sub (ws' := (w0_X5_read G qm qd qs qn qk qt qr qx qdb qde qdf qsa qs0 qs0b qs0e qs0f qs1 qs1b qs1e qs1f qs2 qs2b qs2e qs2f qs3 qs3b qs3e qs3f qs4 qs4b qs4e qs4f qs5 qs5b qs5e qs5f qtc qtn db de df dc dp dk so sn sb se sf sc sp sk tc tl tn_2 tf_3 tv_4)) [0, 1, 2, 3, 4, 5, 6, 7, 8, 9, 10, 11, 12, 13, 14, 15, 16, 17, 18, 19, 20, 21, 22, 23, 24, 25, 26, 27, 28, 29, 30, 31, 32, 33] rfl
  have hD := hD.sub (ws' := (w0_X5_read G qm qd qs qn qk qt qr qx qdb qde qdf qsa qs0 qs0b qs0e qs0f qs1 qs1b qs1e qs1f qs2 qs2b qs2e qs2f qs3 qs3b qs3e qs3f qs4 qs4b qs4e qs4f qs5 qs5b qs5e qs5f qtc qtn db de df dc dp dk so sn sb se sf sc sp sk tc tl tn_2 tf_3 tv_4)) [0, 1, 2, 3, 4, 5, 6, 7, 8, 9, 10, 11, 12, 13, 14, 15, 16, 17, 18, 19, 20, 21, 22, 23, 24, 25, 26, 27, 28, 29, 30, 31, 32, 33] rfl rfl
  obtain ⟨hz_r1, hw⟩ := hw
  refine lv_if_eq (tgt := 20) hx hb dX5_read_7 (by decide) (fun cd5 => ?_) (fun cd5 => ?_)
  · have hw := hw.1 cd5
    exact J20 db de df dc so sn sb se sf sc sp sk tl tn_2 tf_3 tv_4 _ _ _ hP hD hS hl hw
  · have hw := hw.2 cd5
    refine lv_aload_n hx hb dX5_read_10 rfl (lv_at hl 0 rfl) ?_
    refine va_get (D := gD G) (ci := 5) (v := .ref qt) (C := RX5) (T := TX5) (N := 7) hx hb hts k_X5_read_inX5 hown hK hP 0 rfl rfl 4 (by decide) (hts _ k_X5_read_f34) (fun _ h9 => h9) rfl dX5_read_11 ?_
    refine kcR_i (kr_V [] ⟨hx, hb, hml, hown, hts⟩ (cn_X4_endsFit l G qt qtc qtn tc tl tn_2 tf_3 tv_4 hw H.size) (cwV 0 hts gX5_read_X4_endsFit rfl rfl rfl (by decide +kernel) ⟨Nat.le_of_ble_eq_true rfl, Nat.le_of_ble_eq_true rfl⟩) hK hG hP hD hS hA [31, 32, 33] rfl rfl 4 31 rfl rfl rfl hl.1 rfl (Nat.le_of_ble_eq_true rfl) dX5_read_14 ⟨Nat.le_of_ble_eq_true rfl, Nat.le_of_ble_eq_true rfl⟩) hP hD hS hA [31, 32, 33] rfl (fun r6 u H locs hw hP hS => ?_)
    try dsimp only at hw
    obtain ⟨hz_r6, hw⟩ := hw
    refine lv_if_ne (tgt := 30) hx hb dX5_read_17 (by decide) (fun cd7 => ?_) (fun cd7 => ?_)
    · have hw := hw.1 cd7
      refine lv_aload_n hx hb dX5_read_30 rfl (lv_at hl 0 rfl) ?_
      refine lv_aload_n hx hb dX5_read_31 rfl (lv_at hl 0 rfl) ?_
      refine va_get (D := gD G) (ci := 5) (v := .ref qt) (C := RX5) (T := TX5) (N := 7) hx hb hts k_X5_read_inX5 hown hK hP 0 rfl rfl 4 (by decide) (hts _ k_X5_read_f34) (fun _ h9 => h9) rfl dX5_read_32 ?_
      refine kcR_i (kr_V [.ref qm] ⟨hx, hb, hml, hown, hts⟩ (cn_X4_parts l G qt qtc qtn tc tl tn_2 tf_3 tv_4 hw H.size) (cwV 0 hts gX5_read_X4_parts rfl rfl rfl (by decide +kernel) ⟨Nat.le_of_ble_eq_true rfl, Nat.le_of_ble_eq_true rfl⟩) hK hG hP hD hS hA [31, 32, 33] rfl rfl 4 31 rfl rfl rfl hl.1 rfl (Nat.le_of_ble_eq_true rfl) dX5_read_35 ⟨Nat.le_of_ble_eq_true rfl, Nat.le_of_ble_eq_true rfl⟩) hP hD hS hA [31, 32, 33] rfl (fun r8 u H locs hw hP hS => ?_)
      try dsimp only at hw
      refine kxR_v (xr_V [] ⟨hx, hb, hml, hown, hts⟩ (cx_X5_requirePlacesFor l hst G qm qd qs qn qk qt qr qx qdb qde qdf db de df dc dp dk r8 hw H.size) (cwV 1 hts gX5_read_X5_requirePlacesFor rfl rfl rfl (by decide +kernel) ⟨Nat.le_of_ble_eq_true rfl, Nat.le_of_ble_eq_true rfl⟩) hK hG hP hD hS hA [0, 1, 2, 3, 4] rfl rfl 5 0 rfl rfl rfl hl.1 rfl (Nat.le_of_ble_eq_true rfl) dX5_read_38 ⟨Nat.le_of_ble_eq_true rfl, Nat.le_of_ble_eq_true rfl⟩) hP hD hS hA [0, 1, 2, 3, 4] rfl (fun E u ce q9 H locs hw hP hS h1 h2 h3 => kx_out (db, de, df, dc, so, sn, sb, se, sf, sc, sp, sk, tl, tn_2, tf_3, tv_4) hnt hlocks h1 h2 h3 hK hS hP hD hw (Nat.le_of_ble_eq_true rfl) (Nat.le_of_ble_eq_true rfl)) (fun u H locs hw hP hS => ?_)
      try dsimp only at hw
      refine lv_aload_n hx hb dX5_read_41 rfl (lv_at hl 0 rfl) ?_
      refine va_get (D := gD G) (ci := 5) (v := .ref qs) (C := RX5) (T := TX5) (N := 7) hx hb hts k_X5_read_inX5 hown hK hP 0 rfl rfl 1 (by decide) (hts _ k_X5_read_f19) (fun _ h9 => h9) rfl dX5_read_42 ?_
      refine lv_aload_n hx hb dX5_read_45 rfl (lv_at hl 0 rfl) ?_
      refine va_get (D := gD G) (ci := 5) (v := .ref qd) (C := RX5) (T := TX5) (N := 7) hx hb hts k_X5_read_inX5 hown hK hP 0 rfl rfl 0 (by decide) (hts _ k_X5_read_f10) (fun _ h9 => h9) rfl dX5_read_46 ?_
      refine kc_v (kr_V [] ⟨hx, hb, hml, hown, hts⟩ (cn_X3_save l G qs qsa qs0 qs0b qs0e qs0f qs1 qs1b qs1e qs1f qs2 qs2b qs2e qs2f qs3 qs3b qs3e qs3f qs4 qs4b qs4e qs4f qs5 qs5b qs5e qs5f qd qdb qde qdf so sn sb se sf sc sp sk db de df dc dp dk hw H.size) (cwV 1 hts gX5_read_X3_save rfl rfl rfl (by decide +kernel) ⟨Nat.le_of_ble_eq_true rfl, Nat.le_of_ble_eq_true rfl⟩) hK hG hP hD hS hA [5, 6, 7, 8, 9, 10, 11, 12, 13, 14, 15, 16, 17, 18, 19, 20, 21, 22, 23, 24, 25, 26, 27, 28, 29, 30, 1, 2, 3, 4] rfl rfl 3 5 rfl rfl rfl hl.1 rfl (Nat.le_of_ble_eq_true rfl) dX5_read_49 ⟨Nat.le_of_ble_eq_true rfl, Nat.le_of_ble_eq_true rfl⟩) hP hD hS hA [5, 6, 7, 8, 9, 10, 11, 12, 13, 14, 15, 16, 17, 18, 19, 20, 21, 22, 23, 24, 25, 26, 27, 28, 29, 30, 1, 2, 3, 4] [0, 31, 32, 33] rfl rfl rfl (by decide) (fun u H locs hw hP hD hS => ?_)
      obtain ⟨so_9, sn_10, sb_11, se_12, sf_13, sc_14, sp_15, sk_16⟩ := u
      try dsimp only at hw
      have hP := hP.sub (ws' := (w0_X5_read G qm qd qs qn qk qt qr qx qdb qde qdf qsa qs0 qs0b qs0e qs0f qs1 qs1b qs1e qs1f qs2 qs2b qs2e qs2f qs3 qs3b qs3e qs3f qs4 qs4b qs4e qs4f qs5 qs5b qs5e qs5f qtc qtn db de df dc dp dk so_9 sn_10 sb_11 se_12 sf_13 sc_14 sp_15 sk_16 tc tl tn_2 tf_3 tv_4)) [0, 30, 31, 32, 33, 4, 5, 6, 7, 8, 9, 10, 11, 12, 13, 14, 15, 16, 17, 18, 19, 20, 21, 22, 23, 24, 25, 26, 27, 28, 29, 1, 2, 3] rfl
      have hD := hD.sub (ws' := (w0_X5_read G qm qd qs qn qk qt qr qx qdb qde qdf qsa qs0 qs0b qs0e qs0f qs1 qs1b qs1e qs1f qs2 qs2b qs2e qs2f qs3 qs3b qs3e qs3f qs4 qs4b qs4e qs4f qs5 qs5b qs5e qs5f qtc qtn db de df dc dp dk so_9 sn_10 sb_11 se_12 sf_13 sc_14 sp_15 sk_16 tc tl tn_2 tf_3 tv_4)) [0, 30, 31, 32, 33, 4, 5, 6, 7, 8, 9, 10, 11, 12, 13, 14, 15, 16, 17, 18, 19, 20, 21, 22, 23, 24, 25, 26, 27, 28, 29, 1, 2, 3] rfl rfl
      refine lv_iconst (v := 0) hx hb dX5_read_52 (by decide) ?_
      refine lv_istore_n (lv' := [(1, .int (0 : Int32)), (0, .ref qm)]) hx hb dX5_read_53 rfl hl (by decide) rfl (fun ls hl => ?_)
      obtain ⟨n54, hw⟩ := hw
      exact J54 n54 db de df dc so_9 sn_10 sb_11 se_12 sf_13 sc_14 sp_15 sk_16 tl tn_2 tf_3 tv_4 (0 : Int32) _ _ _ hP hD hS (lv_sub hl [1, 0] rfl) hw
    · have hw := hw.2 cd7
      exact J20 db de df dc so sn sb se sf sc sp sk tl tn_2 tf_3 tv_4 _ _ _ hP hD hS hl hw

abbrev w0_X5_requireSlot (G : mG) : va_W := []
set_option maxRecDepth 100000 in
theorem k_X5_requireSlot_l110 : Cond.classLink RX5 110 "java/lang/IllegalArgumentException" ∈ wsX5_requireSlot := by decide +kernel
set_option maxRecDepth 100000 in
theorem k_X5_requireSlot_i110 : Cond.initialized "java/lang/IllegalArgumentException" ∈ wsX5_requireSlot := by decide +kernel
set_option maxRecDepth 100000 in
theorem k_X5_requireSlot_a114 : ∀ w ∈ (vx_atS RX5 114 "java/lang/IllegalArgumentException" gSup).filter goodWord, w ∈ wsX5_requireSlot := by decide +kernel
set_option maxHeartbeats 8000000 in
set_option maxRecDepth 100000 in
theorem cx_X5_requireSlot (l : Launch) (hst : l.stackTraces = false) (G : mG) (a0 : Int32) {Q : Prop} {X : String → Prop} (hw : wx_X5_requireSlot a0 Q X) (sz : Nat) :
    vx_Met l yX5_requireSlot wsX5_requireSlot ({ frames := 6, cells := 1, slots := 6, locals := 90 } : Room) (va_Pc [.int a0] (mPre G (w0_X5_requireSlot G) sz)) (va_Qv (fun (u : Unit) => Q) (mBk G (va_A (w0_X5_requireSlot G) sz) (fun (u : Unit) => (w0_X5_requireSlot G))) (va_A (w0_X5_requireSlot G) sz)) (vx_X (fun _ => True) (fun E u t => (fun (E : String) (u : Unit) => X E) E u ∧ mBk G (va_A (w0_X5_requireSlot G) sz) (fun (u : Unit) => (w0_X5_requireSlot G)) u t) (va_A (w0_X5_requireSlot G) sz)) 1 6 (va_A (w0_X5_requireSlot G) sz) := by
  refine mx_v (cc := cX5_requireSlot) (maxL := 1) (ret := none) (post := (fun (u : Unit) => Q)) (w1 := (fun (u : Unit) => (w0_X5_requireSlot G))) (px := (fun (E : String) (u : Unit) => X E)) (by decide) rfl (Nat.le_of_ble_eq_true rfl) ?_ sz
  intro p e s m below meth c A ls H locs hx hb hr hml hown hts hlocks hnt hK hG hP hD hS hA hl
  have hown : s.vm.findClass RX5 = some m.cls := hown
  have hl : lv_has ls 1 [(0, .int a0)] := hl
  have J9 : ∀ (x0 : Int32) (H : Heap) (locs : List Loc) (ls : Array Slot), va_P (gD G) vwCl (w0_X5_requireSlot G) H → va_D A (w0_X5_requireSlot G) → va_S A s.heap H locs → lv_has ls 1 [(0, .int x0)] → wj_x_X5_requireSlot_9 Q X x0 → W p l e ({ frames := 6, cells := 1, slots := 6, locals := 90 } : Room) s m ([.int a0] : List Value).toArray below meth c H locs 0 0 (vx_MQ below (va_Qv (fun (u : Unit) => Q) (mBk G A (fun (u : Unit) => (w0_X5_requireSlot G))) A) (vx_X (fun _ => True) (fun E u t => (fun (E : String) (u : Unit) => X E) E u ∧ mBk G A (fun (u : Unit) => (w0_X5_requireSlot G)) u t) A) ([.int a0] : List Value).toArray s 1 6 A) (F0 m 9 ls []) := by
    intro x0 H locs ls hP hD hS hl hw
    unfold wj_x_X5_requireSlot_9 at hw
    exact kthw (nL := 1) "no such slot" () hx hb hst hown hts hG hnt hlocks hml hl.1 hK hS hP hD hw ⟨by decide +kernel, by decide +kernel⟩ (by decide +kernel) k_X5_requireSlot_l110 k_X5_requireSlot_i110 k_X5_requireSlot_a114 tnb_114 tgd_114 dX5_requireSlot_9 dX5_requireSlot_12 dX5_requireSlot_19 ⟨dX5_requireSlot_13, dX5_requireSlot_16⟩ ⟨by decide, by decide, by decide, by decide⟩ (Nat.le_of_ble_eq_true rfl) (Nat.le_of_ble_eq_true rfl)
  unfold wx_X5_requireSlot at hw
  refine lv_iload_n hx hb dX5_requireSlot_0 rfl (lv_at hl 0 rfl) ?_
  refine lv_if_lt (tgt := 9) hx hb dX5_requireSlot_1 (by decide) (fun cd1 => ?_) (fun cd1 => ?_)
  · have hw := hw.1 cd1
    exact J9 a0 _ _ _ hP hD hS hl hw
  · have hw := hw.2 cd1
    refine lv_iload_n hx hb dX5_requireSlot_4 rfl (lv_at hl 0 rfl) ?_
    refine lv_iconst (v := 2) hx hb dX5_requireSlot_5 (by decide) ?_
    refine lv_icmp_lt (tgt := 20) hx hb dX5_requireSlot_6 (by decide) (fun cd2 => ?_) (fun cd2 => ?_)
    · have hw := hw.1 cd2
      exact fin_x (Nat.le_of_ble_eq_true rfl) (Nat.le_of_ble_eq_true rfl) (fin_v () hx hb hr hlocks hK hS hP hD hw dX5_requireSlot_20)
    · have hw := hw.2 cd2
      exact J9 a0 _ _ _ hP hD hS hl hw

abbrev w0_X5_keep (G : mG) (qm : Nat) (qd : Nat) (qs : Nat) (qn : Nat) (qk : Nat) (qt : Nat) (qr : Nat) (qx : Nat) (qdb : Nat) (qde : Nat) (qdf : Nat) (qn0 : Nat) (qn0b : Nat) (qn0e : Nat) (qn0f : Nat) (qn1 : Nat) (qn1b : Nat) (qn1e : Nat) (qn1f : Nat) (db : Nat → Int32) (de : Nat → Int32) (df : Nat → Int32) (dc : Int32) (dp : Int32) (dk : Int32) (nb : Nat → Nat → Int32) (ne : Nat → Nat → Int32) (nf : Nat → Nat → Int32) (nc : Nat → Int32) (np : Nat → Int32) (nk : Nat → Int32) (tk : Nat → Int32) : va_W := [(qm, .inr (5, [.ref qd, .ref qs, .ref qn, .ref qk, .ref qt, .ref qr, .ref qx])), (qd, .inr (1, [.ref qdb, .ref qde, .ref qdf, .int dc, .int dp, .int dk])), (qdb, .inl (gI G, (14, .inl db))), (qde, .inl (gI G, (14, .inl de))), (qdf, .inl (gI G, (14, .inl df))), (qn, .inl (gQ G, (2, .inr (.inr (.inr (.inr (g2 qn0 qn1))))))), (qn0, .inr (1, [.ref qn0b, .ref qn0e, .ref qn0f, .int (nc 0), .int (np 0), .int (nk 0)])), (qn0b, .inl (gI G, (14, .inl (nb 0)))), (qn0e, .inl (gI G, (14, .inl (ne 0)))), (qn0f, .inl (gI G, (14, .inl (nf 0)))), (qn1, .inr (1, [.ref qn1b, .ref qn1e, .ref qn1f, .int (nc 1), .int (np 1), .int (nk 1)])), (qn1b, .inl (gI G, (14, .inl (nb 1)))), (qn1e, .inl (gI G, (14, .inl (ne 1)))), (qn1f, .inl (gI G, (14, .inl (nf 1)))), (qk, .inl (gZ G, (2, .inl tk)))]
set_option maxRecDepth 100000 in
theorem k_X5_keep_inX5 : ∀ w ∈ u_ws RX5 TX5 7, w ∈ wsX5_keep := by decide +kernel
set_option maxRecDepth 100000 in
theorem k_X5_keep_f23 : Cond.fieldLink RX5 23 "RehearsalRoom" "snapshots" "[LRehearsalRoom$Day;" ∈ wsX5_keep := by decide +kernel
set_option maxRecDepth 100000 in
theorem k_X5_keep_f10 : Cond.fieldLink RX5 10 "RehearsalRoom" "day" "LRehearsalRoom$Day;" ∈ wsX5_keep := by decide +kernel
set_option maxRecDepth 100000 in
theorem k_X5_keep_f27 : Cond.fieldLink RX5 27 "RehearsalRoom" "taken" "[Z" ∈ wsX5_keep := by decide +kernel
set_option maxHeartbeats 8000000 in
set_option maxRecDepth 100000 in
theorem cx_X5_keep (l : Launch) (hst : l.stackTraces = false) (G : mG) (qm : Nat) (qd : Nat) (qs : Nat) (qn : Nat) (qk : Nat) (qt : Nat) (qr : Nat) (qx : Nat) (qdb : Nat) (qde : Nat) (qdf : Nat) (qn0 : Nat) (qn0b : Nat) (qn0e : Nat) (qn0f : Nat) (qn1 : Nat) (qn1b : Nat) (qn1e : Nat) (qn1f : Nat) (db : Nat → Int32) (de : Nat → Int32) (df : Nat → Int32) (dc : Int32) (dp : Int32) (dk : Int32) (nb : Nat → Nat → Int32) (ne : Nat → Nat → Int32) (nf : Nat → Nat → Int32) (nc : Nat → Int32) (np : Nat → Int32) (nk : Nat → Int32) (tk : Nat → Int32) (a1 : Int32) {Q : (Nat → Nat → Int32) → (Nat → Nat → Int32) → (Nat → Nat → Int32) → (Nat → Int32) → (Nat → Int32) → (Nat → Int32) → (Nat → Int32) → Prop} {X : String → (Nat → Nat → Int32) → (Nat → Nat → Int32) → (Nat → Nat → Int32) → (Nat → Int32) → (Nat → Int32) → (Nat → Int32) → (Nat → Int32) → Prop} (hw : wx_X5_keep db de df dc dp dk nb ne nf nc np nk tk a1 Q X) (sz : Nat) :
    vx_Met l yX5_keep wsX5_keep ({ frames := 7, cells := 1, slots := 6, locals := 110 } : Room) (va_Pc [.ref qm, .int a1] (mPre G (w0_X5_keep G qm qd qs qn qk qt qr qx qdb qde qdf qn0 qn0b qn0e qn0f qn1 qn1b qn1e qn1f db de df dc dp dk nb ne nf nc np nk tk) sz)) (va_Qv (fun (u : (Nat → Nat → Int32) × (Nat → Nat → Int32) × (Nat → Nat → Int32) × (Nat → Int32) × (Nat → Int32) × (Nat → Int32) × (Nat → Int32)) => Q u.1 u.2.1 u.2.2.1 u.2.2.2.1 u.2.2.2.2.1 u.2.2.2.2.2.1 u.2.2.2.2.2.2) (mBk G (va_A (w0_X5_keep G qm qd qs qn qk qt qr qx qdb qde qdf qn0 qn0b qn0e qn0f qn1 qn1b qn1e qn1f db de df dc dp dk nb ne nf nc np nk tk) sz) (fun (u : (Nat → Nat → Int32) × (Nat → Nat → Int32) × (Nat → Nat → Int32) × (Nat → Int32) × (Nat → Int32) × (Nat → Int32) × (Nat → Int32)) => (w0_X5_keep G qm qd qs qn qk qt qr qx qdb qde qdf qn0 qn0b qn0e qn0f qn1 qn1b qn1e qn1f db de df dc dp dk u.1 u.2.1 u.2.2.1 u.2.2.2.1 u.2.2.2.2.1 u.2.2.2.2.2.1 u.2.2.2.2.2.2))) (va_A (w0_X5_keep G qm qd qs qn qk qt qr qx qdb qde qdf qn0 qn0b qn0e qn0f qn1 qn1b qn1e qn1f db de df dc dp dk nb ne nf nc np nk tk) sz)) (vx_X (fun _ => True) (fun E u t => (fun (E : String) (u : (Nat → Nat → Int32) × (Nat → Nat → Int32) × (Nat → Nat → Int32) × (Nat → Int32) × (Nat → Int32) × (Nat → Int32) × (Nat → Int32)) => X E u.1 u.2.1 u.2.2.1 u.2.2.2.1 u.2.2.2.2.1 u.2.2.2.2.2.1 u.2.2.2.2.2.2) E u ∧ mBk G (va_A (w0_X5_keep G qm qd qs qn qk qt qr qx qdb qde qdf qn0 qn0b qn0e qn0f qn1 qn1b qn1e qn1f db de df dc dp dk nb ne nf nc np nk tk) sz) (fun (u : (Nat → Nat → Int32) × (Nat → Nat → Int32) × (Nat → Nat → Int32) × (Nat → Int32) × (Nat → Int32) × (Nat → Int32) × (Nat → Int32)) => (w0_X5_keep G qm qd qs qn qk qt qr qx qdb qde qdf qn0 qn0b qn0e qn0f qn1 qn1b qn1e qn1f db de df dc dp dk u.1 u.2.1 u.2.2.1 u.2.2.2.1 u.2.2.2.2.1 u.2.2.2.2.2.1 u.2.2.2.2.2.2)) u t) (va_A (w0_X5_keep G qm qd qs qn qk qt qr qx qdb qde qdf qn0 qn0b qn0e qn0f qn1 qn1b qn1e qn1f db de df dc dp dk nb ne nf nc np nk tk) sz)) 1 6 (va_A (w0_X5_keep G qm qd qs qn qk qt qr qx qdb qde qdf qn0 qn0b qn0e qn0f qn1 qn1b qn1e qn1f db de df dc dp dk nb ne nf nc np nk tk) sz) := by
  refine mx_v (cc := cX5_keep) (maxL := 2) (ret := none) (post := (fun (u : (Nat → Nat → Int32) × (Nat → Nat → Int32) × (Nat → Nat → Int32) × (Nat → Int32) × (Nat → Int32) × (Nat → Int32) × (Nat → Int32)) => Q u.1 u.2.1 u.2.2.1 u.2.2.2.1 u.2.2.2.2.1 u.2.2.2.2.2.1 u.2.2.2.2.2.2)) (w1 := (fun (u : (Nat → Nat → Int32) × (Nat → Nat → Int32) × (Nat → Nat → Int32) × (Nat → Int32) × (Nat → Int32) × (Nat → Int32) × (Nat → Int32)) => (w0_X5_keep G qm qd qs qn qk qt qr qx qdb qde qdf qn0 qn0b qn0e qn0f qn1 qn1b qn1e qn1f db de df dc dp dk u.1 u.2.1 u.2.2.1 u.2.2.2.1 u.2.2.2.2.1 u.2.2.2.2.2.1 u.2.2.2.2.2.2))) (px := (fun (E : String) (u : (Nat → Nat → Int32) × (Nat → Nat → Int32) × (Nat → Nat → Int32) × (Nat → Int32) × (Nat → Int32) × (Nat → Int32) × (Nat → Int32)) => X E u.1 u.2.1 u.2.2.1 u.2.2.2.1 u.2.2.2.2.1 u.2.2.2.2.2.1 u.2.2.2.2.2.2)) (by decide) rfl (Nat.le_of_ble_eq_true rfl) ?_ sz
  intro p e s m below meth c A ls H locs hx hb hr hml hown hts hlocks hnt hK hG hP hD hS hA hl
  have hown : s.vm.findClass RX5 = some m.cls := hown
  have hl : lv_has ls 2 [(0, .ref qm), (1, .int a1)] := hl
  unfold wx_X5_keep at hw
  refine lv_iload_n hx hb dX5_keep_0 rfl (lv_at hl 1 rfl) ?_
  refine kxR_v (xr_S [] ⟨hx, hb, hml, hown, hts⟩ (cx_X5_requireSlot l hst G a1 hw H.size) (va_cwS 1 hts gX5_keep_X5_requireSlot rfl rfl rfl (by decide +kernel) ⟨Nat.le_of_ble_eq_true rfl, Nat.le_of_ble_eq_true rfl⟩) hK hG hP hD hS hA [] rfl rfl rfl hl.1 rfl (Nat.le_of_ble_eq_true rfl) dX5_keep_1 ⟨Nat.le_of_ble_eq_true rfl, Nat.le_of_ble_eq_true rfl⟩) hP hD hS hA [] rfl (fun E u ce q9 H locs hw hP hS h1 h2 h3 => kx_out (nb, ne, nf, nc, np, nk, tk) hnt hlocks h1 h2 h3 hK hS hP hD hw (Nat.le_of_ble_eq_true rfl) (Nat.le_of_ble_eq_true rfl)) (fun u H locs hw hP hS => ?_)
  try dsimp only at hw
  refine lv_aload_n hx hb dX5_keep_4 rfl (lv_at hl 0 rfl) ?_
  refine va_get (D := gD G) (ci := 5) (v := .ref qn) (C := RX5) (T := TX5) (N := 7) hx hb hts k_X5_keep_inX5 hown hK hP 0 rfl rfl 2 (by decide) (hts _ k_X5_keep_f23) (fun _ h9 => h9) rfl dX5_keep_5 ?_
  refine lv_iload_n hx hb dX5_keep_8 rfl (lv_at hl 1 rfl) ?_
  obtain ⟨h1, hw⟩ := hw
  refine va_aldq hx hb hK hP 5 2 rfl rfl h1 dX5_keep_9 ?_
  rcases c2 h1 with hc | hc
  · have hw := hw.1 hc
    refine W.eq (g2 := F0 m 10 ls [.ref qn0]) (by rw [hc]; rfl) ?_
    refine lv_aload_n hx hb dX5_keep_10 rfl (lv_at hl 0 rfl) ?_
    refine va_get (D := gD G) (ci := 5) (v := .ref qd) (C := RX5) (T := TX5) (N := 7) hx hb hts k_X5_keep_inX5 hown hK hP 0 rfl rfl 0 (by decide) (hts _ k_X5_keep_f10) (fun _ h9 => h9) rfl dX5_keep_11 ?_
    refine kc_v (kr_V [] ⟨hx, hb, hml, hown, hts⟩ (cn_X1_copyFrom l G qn0 qn0b qn0e qn0f qd qdb qde qdf (nb 0) (ne 0) (nf 0) (nc 0) (np 0) (nk 0) db de df dc dp dk hw H.size) (cwV 1 hts gX5_keep_X1_copyFrom rfl rfl rfl (by decide +kernel) ⟨Nat.le_of_ble_eq_true rfl, Nat.le_of_ble_eq_true rfl⟩) hK hG hP hD hS hA [6, 7, 8, 9, 1, 2, 3, 4] rfl rfl 1 6 rfl rfl rfl hl.1 rfl (Nat.le_of_ble_eq_true rfl) dX5_keep_14 ⟨Nat.le_of_ble_eq_true rfl, Nat.le_of_ble_eq_true rfl⟩) hP hD hS hA [6, 7, 8, 9, 1, 2, 3, 4] [0, 5, 10, 11, 12, 13, 14] rfl rfl rfl (by decide) (fun u H locs hw hP hD hS => ?_)
    obtain ⟨db_2, de_3, df_4, dc_5, dp_6, dk_7⟩ := u
    try dsimp only at hw
    have hP := hP.sub (ws' := (w0_X5_keep G qm qd qs qn qk qt qr qx qdb qde qdf qn0 qn0b qn0e qn0f qn1 qn1b qn1e qn1f db de df dc dp dk (va_up nb 0 db_2) (va_up ne 0 de_3) (va_up nf 0 df_4) (va_up nc 0 dc_5) (va_up np 0 dp_6) (va_up nk 0 dk_7) tk)) [0, 11, 12, 13, 14, 1, 7, 8, 9, 10, 2, 3, 4, 5, 6] rfl
    have hD := hD.sub (ws' := (w0_X5_keep G qm qd qs qn qk qt qr qx qdb qde qdf qn0 qn0b qn0e qn0f qn1 qn1b qn1e qn1f db de df dc dp dk (va_up nb 0 db_2) (va_up ne 0 de_3) (va_up nf 0 df_4) (va_up nc 0 dc_5) (va_up np 0 dp_6) (va_up nk 0 dk_7) tk)) [0, 11, 12, 13, 14, 1, 7, 8, 9, 10, 2, 3, 4, 5, 6] rfl rfl
    refine lv_aload_n hx hb dX5_keep_17 rfl (lv_at hl 0 rfl) ?_
    refine va_get (D := gD G) (ci := 5) (v := .ref qk) (C := RX5) (T := TX5) (N := 7) hx hb hts k_X5_keep_inX5 hown hK hP 0 rfl rfl 3 (by decide) (hts _ k_X5_keep_f27) (fun _ h9 => h9) rfl dX5_keep_18 ?_
    refine lv_iload_n hx hb dX5_keep_21 rfl (lv_at hl 1 rfl) ?_
    refine lv_iconst (v := 1) hx hb dX5_keep_22 (by decide) ?_
    obtain ⟨h8, hw⟩ := hw
    refine va_zast hx hb hK hP hD hS 14 1 rfl rfl h8 dX5_keep_23 (fun H locs hP hD hS => ?_)
    have hP : va_P (gD G) vwCl (w0_X5_keep G qm qd qs qn qk qt qr qx qdb qde qdf qn0 qn0b qn0e qn0f qn1 qn1b qn1e qn1f db de df dc dp dk (va_up nb 0 db_2) (va_up ne 0 de_3) (va_up nf 0 df_4) (va_up nc 0 dc_5) (va_up np 0 dp_6) (va_up nk 0 dk_7) (upd tk a1.toNatClampNeg (vp_nar .boolean (1 : Int32)))) H := hP
    have hD : va_D A (w0_X5_keep G qm qd qs qn qk qt qr qx qdb qde qdf qn0 qn0b qn0e qn0f qn1 qn1b qn1e qn1f db de df dc dp dk (va_up nb 0 db_2) (va_up ne 0 de_3) (va_up nf 0 df_4) (va_up nc 0 dc_5) (va_up np 0 dp_6) (va_up nk 0 dk_7) (upd tk a1.toNatClampNeg (vp_nar .boolean (1 : Int32)))) := hD
    exact fin_x (Nat.le_of_ble_eq_true rfl) (Nat.le_of_ble_eq_true rfl) (fin_v ((va_up nb 0 db_2), (va_up ne 0 de_3), (va_up nf 0 df_4), (va_up nc 0 dc_5), (va_up np 0 dp_6), (va_up nk 0 dk_7), (upd tk a1.toNatClampNeg (vp_nar .boolean (1 : Int32)))) hx hb hr hlocks hK hS hP hD hw dX5_keep_24)
  · have hw := hw.2 hc
    refine W.eq (g2 := F0 m 10 ls [.ref qn1]) (by rw [hc]; rfl) ?_
    refine lv_aload_n hx hb dX5_keep_10 rfl (lv_at hl 0 rfl) ?_
    refine va_get (D := gD G) (ci := 5) (v := .ref qd) (C := RX5) (T := TX5) (N := 7) hx hb hts k_X5_keep_inX5 hown hK hP 0 rfl rfl 0 (by decide) (hts _ k_X5_keep_f10) (fun _ h9 => h9) rfl dX5_keep_11 ?_
    refine kc_v (kr_V [] ⟨hx, hb, hml, hown, hts⟩ (cn_X1_copyFrom l G qn1 qn1b qn1e qn1f qd qdb qde qdf (nb 1) (ne 1) (nf 1) (nc 1) (np 1) (nk 1) db de df dc dp dk hw H.size) (cwV 1 hts gX5_keep_X1_copyFrom rfl rfl rfl (by decide +kernel) ⟨Nat.le_of_ble_eq_true rfl, Nat.le_of_ble_eq_true rfl⟩) hK hG hP hD hS hA [10, 11, 12, 13, 1, 2, 3, 4] rfl rfl 1 10 rfl rfl rfl hl.1 rfl (Nat.le_of_ble_eq_true rfl) dX5_keep_14 ⟨Nat.le_of_ble_eq_true rfl, Nat.le_of_ble_eq_true rfl⟩) hP hD hS hA [10, 11, 12, 13, 1, 2, 3, 4] [0, 5, 6, 7, 8, 9, 14] rfl rfl rfl (by decide) (fun u H locs hw hP hD hS => ?_)
    obtain ⟨db_9, de_10, df_11, dc_12, dp_13, dk_14⟩ := u
    try dsimp only at hw
    have hP := hP.sub (ws' := (w0_X5_keep G qm qd qs qn qk qt qr qx qdb qde qdf qn0 qn0b qn0e qn0f qn1 qn1b qn1e qn1f db de df dc dp dk (va_up nb 1 db_9) (va_up ne 1 de_10) (va_up nf 1 df_11) (va_up nc 1 dc_12) (va_up np 1 dp_13) (va_up nk 1 dk_14) tk)) [0, 11, 12, 13, 14, 1, 2, 3, 4, 5, 7, 8, 9, 10, 6] rfl
    have hD := hD.sub (ws' := (w0_X5_keep G qm qd qs qn qk qt qr qx qdb qde qdf qn0 qn0b qn0e qn0f qn1 qn1b qn1e qn1f db de df dc dp dk (va_up nb 1 db_9) (va_up ne 1 de_10) (va_up nf 1 df_11) (va_up nc 1 dc_12) (va_up np 1 dp_13) (va_up nk 1 dk_14) tk)) [0, 11, 12, 13, 14, 1, 2, 3, 4, 5, 7, 8, 9, 10, 6] rfl rfl
    refine lv_aload_n hx hb dX5_keep_17 rfl (lv_at hl 0 rfl) ?_
    refine va_get (D := gD G) (ci := 5) (v := .ref qk) (C := RX5) (T := TX5) (N := 7) hx hb hts k_X5_keep_inX5 hown hK hP 0 rfl rfl 3 (by decide) (hts _ k_X5_keep_f27) (fun _ h9 => h9) rfl dX5_keep_18 ?_
    refine lv_iload_n hx hb dX5_keep_21 rfl (lv_at hl 1 rfl) ?_
    refine lv_iconst (v := 1) hx hb dX5_keep_22 (by decide) ?_
    obtain ⟨h15, hw⟩ := hw
    refine va_zast hx hb hK hP hD hS 14 1 rfl rfl h15 dX5_keep_23 (fun H locs hP hD hS => ?_)
    have hP : va_P (gD G) vwCl (w0_X5_keep G qm qd qs qn qk qt qr qx qdb qde qdf qn0 qn0b qn0e qn0f qn1 qn1b qn1e qn1f db de df dc dp dk (va_up nb 1 db_9) (va_up ne 1 de_10) (va_up nf 1 df_11) (va_up nc 1 dc_12) (va_up np 1 dp_13) (va_up nk 1 dk_14) (upd tk a1.toNatClampNeg (vp_nar .boolean (1 : Int32)))) H := hP
    have hD : va_D A (w0_X5_keep G qm qd qs qn qk qt qr qx qdb qde qdf qn0 qn0b qn0e qn0f qn1 qn1b qn1e qn1f db de df dc dp dk (va_up nb 1 db_9) (va_up ne 1 de_10) (va_up nf 1 df_11) (va_up nc 1 dc_12) (va_up np 1 dp_13) (va_up nk 1 dk_14) (upd tk a1.toNatClampNeg (vp_nar .boolean (1 : Int32)))) := hD
    exact fin_x (Nat.le_of_ble_eq_true rfl) (Nat.le_of_ble_eq_true rfl) (fin_v ((va_up nb 1 db_9), (va_up ne 1 de_10), (va_up nf 1 df_11), (va_up nc 1 dc_12), (va_up np 1 dp_13), (va_up nk 1 dk_14), (upd tk a1.toNatClampNeg (vp_nar .boolean (1 : Int32)))) hx hb hr hlocks hK hS hP hD hw dX5_keep_24)

abbrev w0_X5_goBack (G : mG) (qm : Nat) (qd : Nat) (qs : Nat) (qn : Nat) (qk : Nat) (qt : Nat) (qr : Nat) (qx : Nat) (qdb : Nat) (qde : Nat) (qdf : Nat) (qsa : Nat) (qs0 : Nat) (qs0b : Nat) (qs0e : Nat) (qs0f : Nat) (qs1 : Nat) (qs1b : Nat) (qs1e : Nat) (qs1f : Nat) (qs2 : Nat) (qs2b : Nat) (qs2e : Nat) (qs2f : Nat) (qs3 : Nat) (qs3b : Nat) (qs3e : Nat) (qs3f : Nat) (qs4 : Nat) (qs4b : Nat) (qs4e : Nat) (qs4f : Nat) (qs5 : Nat) (qs5b : Nat) (qs5e : Nat) (qs5f : Nat) (qn0 : Nat) (qn0b : Nat) (qn0e : Nat) (qn0f : Nat) (qn1 : Nat) (qn1b : Nat) (qn1e : Nat) (qn1f : Nat) (db : Nat → Int32) (de : Nat → Int32) (df : Nat → Int32) (dc : Int32) (dp : Int32) (dk : Int32) (so : Int32) (sn : Int32) (sb : Nat → Nat → Int32) (se : Nat → Nat → Int32) (sf : Nat → Nat → Int32) (sc : Nat → Int32) (sp : Nat → Int32) (sk : Nat → Int32) (nb : Nat → Nat → Int32) (ne : Nat → Nat → Int32) (nf : Nat → Nat → Int32) (nc : Nat → Int32) (np : Nat → Int32) (nk : Nat → Int32) (tk : Nat → Int32) : va_W := [(qm, .inr (5, [.ref qd, .ref qs, .ref qn, .ref qk, .ref qt, .ref qr, .ref qx])), (qd, .inr (1, [.ref qdb, .ref qde, .ref qdf, .int dc, .int dp, .int dk])), (qdb, .inl (gI G, (14, .inl db))), (qde, .inl (gI G, (14, .inl de))), (qdf, .inl (gI G, (14, .inl df))), (qs, .inr (3, [.ref qsa, .int so, .int sn])), (qsa, .inl (gQ G, (6, .inr (.inr (.inr (.inr (g6 qs0 qs1 qs2 qs3 qs4 qs5))))))), (qs0, .inr (1, [.ref qs0b, .ref qs0e, .ref qs0f, .int (sc 0), .int (sp 0), .int (sk 0)])), (qs0b, .inl (gI G, (14, .inl (sb 0)))), (qs0e, .inl (gI G, (14, .inl (se 0)))), (qs0f, .inl (gI G, (14, .inl (sf 0)))), (qs1, .inr (1, [.ref qs1b, .ref qs1e, .ref qs1f, .int (sc 1), .int (sp 1), .int (sk 1)])), (qs1b, .inl (gI G, (14, .inl (sb 1)))), (qs1e, .inl (gI G, (14, .inl (se 1)))), (qs1f, .inl (gI G, (14, .inl (sf 1)))), (qs2, .inr (1, [.ref qs2b, .ref qs2e, .ref qs2f, .int (sc 2), .int (sp 2), .int (sk 2)])), (qs2b, .inl (gI G, (14, .inl (sb 2)))), (qs2e, .inl (gI G, (14, .inl (se 2)))), (qs2f, .inl (gI G, (14, .inl (sf 2)))), (qs3, .inr (1, [.ref qs3b, .ref qs3e, .ref qs3f, .int (sc 3), .int (sp 3), .int (sk 3)])), (qs3b, .inl (gI G, (14, .inl (sb 3)))), (qs3e, .inl (gI G, (14, .inl (se 3)))), (qs3f, .inl (gI G, (14, .inl (sf 3)))), (qs4, .inr (1, [.ref qs4b, .ref qs4e, .ref qs4f, .int (sc 4), .int (sp 4), .int (sk 4)])), (qs4b, .inl (gI G, (14, .inl (sb 4)))), (qs4e, .inl (gI G, (14, .inl (se 4)))), (qs4f, .inl (gI G, (14, .inl (sf 4)))), (qs5, .inr (1, [.ref qs5b, .ref qs5e, .ref qs5f, .int (sc 5), .int (sp 5), .int (sk 5)])), (qs5b, .inl (gI G, (14, .inl (sb 5)))), (qs5e, .inl (gI G, (14, .inl (se 5)))), (qs5f, .inl (gI G, (14, .inl (sf 5)))), (qn, .inl (gQ G, (2, .inr (.inr (.inr (.inr (g2 qn0 qn1))))))), (qn0, .inr (1, [.ref qn0b, .ref qn0e, .ref qn0f, .int (nc 0), .int (np 0), .int (nk 0)])), (qn0b, .inl (gI G, (14, .inl (nb 0)))), (qn0e, .inl (gI G, (14, .inl (ne 0)))), (qn0f, .inl (gI G, (14, .inl (nf 0)))), (qn1, .inr (1, [.ref qn1b, .ref qn1e, .ref qn1f, .int (nc 1), .int (np 1), .int (nk 1)])), (qn1b, .inl (gI G, (14, .inl (nb 1)))), (qn1e, .inl (gI G, (14, .inl (ne 1)))), (qn1f, .inl (gI G, (14, .inl (nf 1)))), (qk, .inl (gZ G, (2, .inl tk)))]
set_option maxRecDepth 100000 in
theorem k_X5_goBack_inX5 : ∀ w ∈ u_ws RX5 TX5 7, w ∈ wsX5_goBack := by decide +kernel
set_option maxRecDepth 100000 in
theorem k_X5_goBack_f27 : Cond.fieldLink RX5 27 "RehearsalRoom" "taken" "[Z" ∈ wsX5_goBack := by decide +kernel
set_option maxRecDepth 100000 in
theorem k_X5_goBack_f19 : Cond.fieldLink RX5 19 "RehearsalRoom" "saved" "LRehearsalRoom$SavedDays;" ∈ wsX5_goBack := by decide +kernel
set_option maxRecDepth 100000 in
theorem k_X5_goBack_f10 : Cond.fieldLink RX5 10 "RehearsalRoom" "day" "LRehearsalRoom$Day;" ∈ wsX5_goBack := by decide +kernel
set_option maxRecDepth 100000 in
theorem k_X5_goBack_f23 : Cond.fieldLink RX5 23 "RehearsalRoom" "snapshots" "[LRehearsalRoom$Day;" ∈ wsX5_goBack := by decide +kernel
set_option maxRecDepth 100000 in
theorem k_X5_goBack_l93 : Cond.classLink RX5 93 "java/lang/IllegalStateException" ∈ wsX5_goBack := by decide +kernel
set_option maxRecDepth 100000 in
theorem k_X5_goBack_i93 : Cond.initialized "java/lang/IllegalStateException" ∈ wsX5_goBack := by decide +kernel
set_option maxRecDepth 100000 in
theorem k_X5_goBack_a97 : ∀ w ∈ (vx_atS RX5 97 "java/lang/IllegalStateException" gSup).filter goodWord, w ∈ wsX5_goBack := by decide +kernel
set_option maxHeartbeats 8000000 in
set_option maxRecDepth 100000 in
theorem cx_X5_goBack (l : Launch) (hst : l.stackTraces = false) (G : mG) (qm : Nat) (qd : Nat) (qs : Nat) (qn : Nat) (qk : Nat) (qt : Nat) (qr : Nat) (qx : Nat) (qdb : Nat) (qde : Nat) (qdf : Nat) (qsa : Nat) (qs0 : Nat) (qs0b : Nat) (qs0e : Nat) (qs0f : Nat) (qs1 : Nat) (qs1b : Nat) (qs1e : Nat) (qs1f : Nat) (qs2 : Nat) (qs2b : Nat) (qs2e : Nat) (qs2f : Nat) (qs3 : Nat) (qs3b : Nat) (qs3e : Nat) (qs3f : Nat) (qs4 : Nat) (qs4b : Nat) (qs4e : Nat) (qs4f : Nat) (qs5 : Nat) (qs5b : Nat) (qs5e : Nat) (qs5f : Nat) (qn0 : Nat) (qn0b : Nat) (qn0e : Nat) (qn0f : Nat) (qn1 : Nat) (qn1b : Nat) (qn1e : Nat) (qn1f : Nat) (db : Nat → Int32) (de : Nat → Int32) (df : Nat → Int32) (dc : Int32) (dp : Int32) (dk : Int32) (so : Int32) (sn : Int32) (sb : Nat → Nat → Int32) (se : Nat → Nat → Int32) (sf : Nat → Nat → Int32) (sc : Nat → Int32) (sp : Nat → Int32) (sk : Nat → Int32) (nb : Nat → Nat → Int32) (ne : Nat → Nat → Int32) (nf : Nat → Nat → Int32) (nc : Nat → Int32) (np : Nat → Int32) (nk : Nat → Int32) (tk : Nat → Int32) (a1 : Int32) {Q : (Nat → Int32) → (Nat → Int32) → (Nat → Int32) → Int32 → Int32 → Int32 → Int32 → Int32 → (Nat → Nat → Int32) → (Nat → Nat → Int32) → (Nat → Nat → Int32) → (Nat → Int32) → (Nat → Int32) → (Nat → Int32) → Prop} {X : String → (Nat → Int32) → (Nat → Int32) → (Nat → Int32) → Int32 → Int32 → Int32 → Int32 → Int32 → (Nat → Nat → Int32) → (Nat → Nat → Int32) → (Nat → Nat → Int32) → (Nat → Int32) → (Nat → Int32) → (Nat → Int32) → Prop} (hw : wx_X5_goBack db de df dc dp dk so sn sb se sf sc sp sk nb ne nf nc np nk tk a1 Q X) (sz : Nat) :
    vx_Met l yX5_goBack wsX5_goBack ({ frames := 7, cells := 2, slots := 12, locals := 110 } : Room) (va_Pc [.ref qm, .int a1] (mPre G (w0_X5_goBack G qm qd qs qn qk qt qr qx qdb qde qdf qsa qs0 qs0b qs0e qs0f qs1 qs1b qs1e qs1f qs2 qs2b qs2e qs2f qs3 qs3b qs3e qs3f qs4 qs4b qs4e qs4f qs5 qs5b qs5e qs5f qn0 qn0b qn0e qn0f qn1 qn1b qn1e qn1f db de df dc dp dk so sn sb se sf sc sp sk nb ne nf nc np nk tk) sz)) (va_Qv (fun (u : (Nat → Int32) × (Nat → Int32) × (Nat → Int32) × Int32 × Int32 × Int32 × Int32 × Int32 × (Nat → Nat → Int32) × (Nat → Nat → Int32) × (Nat → Nat → Int32) × (Nat → Int32) × (Nat → Int32) × (Nat → Int32)) => Q u.1 u.2.1 u.2.2.1 u.2.2.2.1 u.2.2.2.2.1 u.2.2.2.2.2.1 u.2.2.2.2.2.2.1 u.2.2.2.2.2.2.2.1 u.2.2.2.2.2.2.2.2.1 u.2.2.2.2.2.2.2.2.2.1 u.2.2.2.2.2.2.2.2.2.2.1 u.2.2.2.2.2.2.2.2.2.2.2.1 u.2.2.2.2.2.2.2.2.2.2.2.2.1 u.2.2.2.2.2.2.2.2.2.2.2.2.2) (mBk G (va_A (w0_X5_goBack G qm qd qs qn qk qt qr qx qdb qde qdf qsa qs0 qs0b qs0e qs0f qs1 qs1b qs1e qs1f qs2 qs2b qs2e qs2f qs3 qs3b qs3e qs3f qs4 qs4b qs4e qs4f qs5 qs5b qs5e qs5f qn0 qn0b qn0e qn0f qn1 qn1b qn1e qn1f db de df dc dp dk so sn sb se sf sc sp sk nb ne nf nc np nk tk) sz) (fun (u : (Nat → Int32) × (Nat → Int32) × (Nat → Int32) × Int32 × Int32 × Int32 × Int32 × Int32 × (Nat → Nat → Int32) × (Nat → Nat → Int32) × (Nat → Nat → Int32) × (Nat → Int32) × (Nat → Int32) × (Nat → Int32)) => (w0_X5_goBack G qm qd qs qn qk qt qr qx qdb qde qdf qsa qs0 qs0b qs0e qs0f qs1 qs1b qs1e qs1f qs2 qs2b qs2e qs2f qs3 qs3b qs3e qs3f qs4 qs4b qs4e qs4f qs5 qs5b qs5e qs5f qn0 qn0b qn0e qn0f qn1 qn1b qn1e qn1f u.1 u.2.1 u.2.2.1 u.2.2.2.1 u.2.2.2.2.1 u.2.2.2.2.2.1 u.2.2.2.2.2.2.1 u.2.2.2.2.2.2.2.1 u.2.2.2.2.2.2.2.2.1 u.2.2.2.2.2.2.2.2.2.1 u.2.2.2.2.2.2.2.2.2.2.1 u.2.2.2.2.2.2.2.2.2.2.2.1 u.2.2.2.2.2.2.2.2.2.2.2.2.1 u.2.2.2.2.2.2.2.2.2.2.2.2.2 nb ne nf nc np nk tk))) (va_A (w0_X5_goBack G qm qd qs qn qk qt qr qx qdb qde qdf qsa qs0 qs0b qs0e qs0f qs1 qs1b qs1e qs1f qs2 qs2b qs2e qs2f qs3 qs3b qs3e qs3f qs4 qs4b qs4e qs4f qs5 qs5b qs5e qs5f qn0 qn0b qn0e qn0f qn1 qn1b qn1e qn1f db de df dc dp dk so sn sb se sf sc sp sk nb ne nf nc np nk tk) sz)) (vx_X (fun _ => True) (fun E u t => (fun (E : String) (u : (Nat → Int32) × (Nat → Int32) × (Nat → Int32) × Int32 × Int32 × Int32 × Int32 × Int32 × (Nat → Nat → Int32) × (Nat → Nat → Int32) × (Nat → Nat → Int32) × (Nat → Int32) × (Nat → Int32) × (Nat → Int32)) => X E u.1 u.2.1 u.2.2.1 u.2.2.2.1 u.2.2.2.2.1 u.2.2.2.2.2.1 u.2.2.2.2.2.2.1 u.2.2.2.2.2.2.2.1 u.2.2.2.2.2.2.2.2.1 u.2.2.2.2.2.2.2.2.2.1 u.2.2.2.2.2.2.2.2.2.2.1 u.2.2.2.2.2.2.2.2.2.2.2.1 u.2.2.2.2.2.2.2.2.2.2.2.2.1 u.2.2.2.2.2.2.2.2.2.2.2.2.2) E u ∧ mBk G (va_A (w0_X5_goBack G qm qd qs qn qk qt qr qx qdb qde qdf qsa qs0 qs0b qs0e qs0f qs1 qs1b qs1e qs1f qs2 qs2b qs2e qs2f qs3 qs3b qs3e qs3f qs4 qs4b qs4e qs4f qs5 qs5b qs5e qs5f qn0 qn0b qn0e qn0f qn1 qn1b qn1e qn1f db de df dc dp dk so sn sb se sf sc sp sk nb ne nf nc np nk tk) sz) (fun (u : (Nat → Int32) × (Nat → Int32) × (Nat → Int32) × Int32 × Int32 × Int32 × Int32 × Int32 × (Nat → Nat → Int32) × (Nat → Nat → Int32) × (Nat → Nat → Int32) × (Nat → Int32) × (Nat → Int32) × (Nat → Int32)) => (w0_X5_goBack G qm qd qs qn qk qt qr qx qdb qde qdf qsa qs0 qs0b qs0e qs0f qs1 qs1b qs1e qs1f qs2 qs2b qs2e qs2f qs3 qs3b qs3e qs3f qs4 qs4b qs4e qs4f qs5 qs5b qs5e qs5f qn0 qn0b qn0e qn0f qn1 qn1b qn1e qn1f u.1 u.2.1 u.2.2.1 u.2.2.2.1 u.2.2.2.2.1 u.2.2.2.2.2.1 u.2.2.2.2.2.2.1 u.2.2.2.2.2.2.2.1 u.2.2.2.2.2.2.2.2.1 u.2.2.2.2.2.2.2.2.2.1 u.2.2.2.2.2.2.2.2.2.2.1 u.2.2.2.2.2.2.2.2.2.2.2.1 u.2.2.2.2.2.2.2.2.2.2.2.2.1 u.2.2.2.2.2.2.2.2.2.2.2.2.2 nb ne nf nc np nk tk)) u t) (va_A (w0_X5_goBack G qm qd qs qn qk qt qr qx qdb qde qdf qsa qs0 qs0b qs0e qs0f qs1 qs1b qs1e qs1f qs2 qs2b qs2e qs2f qs3 qs3b qs3e qs3f qs4 qs4b qs4e qs4f qs5 qs5b qs5e qs5f qn0 qn0b qn0e qn0f qn1 qn1b qn1e qn1f db de df dc dp dk so sn sb se sf sc sp sk nb ne nf nc np nk tk) sz)) 2 12 (va_A (w0_X5_goBack G qm qd qs qn qk qt qr qx qdb qde qdf qsa qs0 qs0b qs0e qs0f qs1 qs1b qs1e qs1f qs2 qs2b qs2e qs2f qs3 qs3b qs3e qs3f qs4 qs4b qs4e qs4f qs5 qs5b qs5e qs5f qn0 qn0b qn0e qn0f qn1 qn1b qn1e qn1f db de df dc dp dk so sn sb se sf sc sp sk nb ne nf nc np nk tk) sz) := by
  refine mx_v (cc := cX5_goBack) (maxL := 2) (ret := none) (post := (fun (u : (Nat → Int32) × (Nat → Int32) × (Nat → Int32) × Int32 × Int32 × Int32 × Int32 × Int32 × (Nat → Nat → Int32) × (Nat → Nat → Int32) × (Nat → Nat → Int32) × (Nat → Int32) × (Nat → Int32) × (Nat → Int32)) => Q u.1 u.2.1 u.2.2.1 u.2.2.2.1 u.2.2.2.2.1 u.2.2.2.2.2.1 u.2.2.2.2.2.2.1 u.2.2.2.2.2.2.2.1 u.2.2.2.2.2.2.2.2.1 u.2.2.2.2.2.2.2.2.2.1 u.2.2.2.2.2.2.2.2.2.2.1 u.2.2.2.2.2.2.2.2.2.2.2.1 u.2.2.2.2.2.2.2.2.2.2.2.2.1 u.2.2.2.2.2.2.2.2.2.2.2.2.2)) (w1 := (fun (u : (Nat → Int32) × (Nat → Int32) × (Nat → Int32) × Int32 × Int32 × Int32 × Int32 × Int32 × (Nat → Nat → Int32) × (Nat → Nat → Int32) × (Nat → Nat → Int32) × (Nat → Int32) × (Nat → Int32) × (Nat → Int32)) => (w0_X5_goBack G qm qd qs qn qk qt qr qx qdb qde qdf qsa qs0 qs0b qs0e qs0f qs1 qs1b qs1e qs1f qs2 qs2b qs2e qs2f qs3 qs3b qs3e qs3f qs4 qs4b qs4e qs4f qs5 qs5b qs5e qs5f qn0 qn0b qn0e qn0f qn1 qn1b qn1e qn1f u.1 u.2.1 u.2.2.1 u.2.2.2.1 u.2.2.2.2.1 u.2.2.2.2.2.1 u.2.2.2.2.2.2.1 u.2.2.2.2.2.2.2.1 u.2.2.2.2.2.2.2.2.1 u.2.2.2.2.2.2.2.2.2.1 u.2.2.2.2.2.2.2.2.2.2.1 u.2.2.2.2.2.2.2.2.2.2.2.1 u.2.2.2.2.2.2.2.2.2.2.2.2.1 u.2.2.2.2.2.2.2.2.2.2.2.2.2 nb ne nf nc np nk tk))) (px := (fun (E : String) (u : (Nat → Int32) × (Nat → Int32) × (Nat → Int32) × Int32 × Int32 × Int32 × Int32 × Int32 × (Nat → Nat → Int32) × (Nat → Nat → Int32) × (Nat → Nat → Int32) × (Nat → Int32) × (Nat → Int32) × (Nat → Int32)) => X E u.1 u.2.1 u.2.2.1 u.2.2.2.1 u.2.2.2.2.1 u.2.2.2.2.2.1 u.2.2.2.2.2.2.1 u.2.2.2.2.2.2.2.1 u.2.2.2.2.2.2.2.2.1 u.2.2.2.2.2.2.2.2.2.1 u.2.2.2.2.2.2.2.2.2.2.1 u.2.2.2.2.2.2.2.2.2.2.2.1 u.2.2.2.2.2.2.2.2.2.2.2.2.1 u.2.2.2.2.2.2.2.2.2.2.2.2.2)) (by decide) rfl (Nat.le_of_ble_eq_true rfl) ?_ sz
  intro p e s m below meth c A ls H locs hx hb hr hml hown hts hlocks hnt hK hG hP hD hS hA hl
  have hown : s.vm.findClass RX5 = some m.cls := hown
  have hl : lv_has ls 2 [(0, .ref qm), (1, .int a1)] := hl
  unfold wx_X5_goBack at hw
  refine lv_iload_n hx hb dX5_goBack_0 rfl (lv_at hl 1 rfl) ?_
  refine kxR_v (xr_S [] ⟨hx, hb, hml, hown, hts⟩ (cx_X5_requireSlot l hst G a1 hw H.size) (va_cwS 1 hts gX5_goBack_X5_requireSlot rfl rfl rfl (by decide +kernel) ⟨Nat.le_of_ble_eq_true rfl, Nat.le_of_ble_eq_true rfl⟩) hK hG hP hD hS hA [] rfl rfl rfl hl.1 rfl (Nat.le_of_ble_eq_true rfl) dX5_goBack_1 ⟨Nat.le_of_ble_eq_true rfl, Nat.le_of_ble_eq_true rfl⟩) hP hD hS hA [] rfl (fun E u ce q9 H locs hw hP hS h1 h2 h3 => kx_out (db, de, df, dc, dp, dk, so, sn, sb, se, sf, sc, sp, sk) hnt hlocks h1 h2 h3 hK hS hP hD hw (Nat.le_of_ble_eq_true rfl) (Nat.le_of_ble_eq_true rfl)) (fun u H locs hw hP hS => ?_)
  try dsimp only at hw
  refine lv_aload_n hx hb dX5_goBack_4 rfl (lv_at hl 0 rfl) ?_
  refine va_get (D := gD G) (ci := 5) (v := .ref qk) (C := RX5) (T := TX5) (N := 7) hx hb hts k_X5_goBack_inX5 hown hK hP 0 rfl rfl 3 (by decide) (hts _ k_X5_goBack_f27) (fun _ h9 => h9) rfl dX5_goBack_5 ?_
  refine lv_iload_n hx hb dX5_goBack_8 rfl (lv_at hl 1 rfl) ?_
  obtain ⟨h1, hw⟩ := hw
  refine va_zald hx hb hK hP 40 1 rfl rfl h1 dX5_goBack_9 ?_
  refine lv_if_ne (tgt := 23) hx hb dX5_goBack_10 (by decide) (fun cd2 => ?_) (fun cd2 => ?_)
  · have hw := hw.1 cd2
    refine lv_aload_n hx hb dX5_goBack_23 rfl (lv_at hl 0 rfl) ?_
    refine va_get (D := gD G) (ci := 5) (v := .ref qs) (C := RX5) (T := TX5) (N := 7) hx hb hts k_X5_goBack_inX5 hown hK hP 0 rfl rfl 1 (by decide) (hts _ k_X5_goBack_f19) (fun _ h9 => h9) rfl dX5_goBack_24 ?_
    refine lv_aload_n hx hb dX5_goBack_27 rfl (lv_at hl 0 rfl) ?_
    refine va_get (D := gD G) (ci := 5) (v := .ref qd) (C := RX5) (T := TX5) (N := 7) hx hb hts k_X5_goBack_inX5 hown hK hP 0 rfl rfl 0 (by decide) (hts _ k_X5_goBack_f10) (fun _ h9 => h9) rfl dX5_goBack_28 ?_
    refine kc_v (kr_V [] ⟨hx, hb, hml, hown, hts⟩ (cn_X3_save l G qs qsa qs0 qs0b qs0e qs0f qs1 qs1b qs1e qs1f qs2 qs2b qs2e qs2f qs3 qs3b qs3e qs3f qs4 qs4b qs4e qs4f qs5 qs5b qs5e qs5f qd qdb qde qdf so sn sb se sf sc sp sk db de df dc dp dk hw H.size) (cwV 1 hts gX5_goBack_X3_save rfl rfl rfl (by decide +kernel) ⟨Nat.le_of_ble_eq_true rfl, Nat.le_of_ble_eq_true rfl⟩) hK hG hP hD hS hA [5, 6, 7, 8, 9, 10, 11, 12, 13, 14, 15, 16, 17, 18, 19, 20, 21, 22, 23, 24, 25, 26, 27, 28, 29, 30, 1, 2, 3, 4] rfl rfl 3 5 rfl rfl rfl hl.1 rfl (Nat.le_of_ble_eq_true rfl) dX5_goBack_31 ⟨Nat.le_of_ble_eq_true rfl, Nat.le_of_ble_eq_true rfl⟩) hP hD hS hA [5, 6, 7, 8, 9, 10, 11, 12, 13, 14, 15, 16, 17, 18, 19, 20, 21, 22, 23, 24, 25, 26, 27, 28, 29, 30, 1, 2, 3, 4] [0, 31, 32, 33, 34, 35, 36, 37, 38, 39, 40] rfl rfl rfl (by decide) (fun u H locs hw hP hD hS => ?_)
    obtain ⟨so_3, sn_4, sb_5, se_6, sf_7, sc_8, sp_9, sk_10⟩ := u
    try dsimp only at hw
    have hP := hP.sub (ws' := (w0_X5_goBack G qm qd qs qn qk qt qr qx qdb qde qdf qsa qs0 qs0b qs0e qs0f qs1 qs1b qs1e qs1f qs2 qs2b qs2e qs2f qs3 qs3b qs3e qs3f qs4 qs4b qs4e qs4f qs5 qs5b qs5e qs5f qn0 qn0b qn0e qn0f qn1 qn1b qn1e qn1f db de df dc dp dk so_3 sn_4 sb_5 se_6 sf_7 sc_8 sp_9 sk_10 nb ne nf nc np nk tk)) [0, 37, 38, 39, 40, 11, 12, 13, 14, 15, 16, 17, 18, 19, 20, 21, 22, 23, 24, 25, 26, 27, 28, 29, 30, 31, 32, 33, 34, 35, 36, 1, 2, 3, 4, 5, 6, 7, 8, 9, 10] rfl
    have hD := hD.sub (ws' := (w0_X5_goBack G qm qd qs qn qk qt qr qx qdb qde qdf qsa qs0 qs0b qs0e qs0f qs1 qs1b qs1e qs1f qs2 qs2b qs2e qs2f qs3 qs3b qs3e qs3f qs4 qs4b qs4e qs4f qs5 qs5b qs5e qs5f qn0 qn0b qn0e qn0f qn1 qn1b qn1e qn1f db de df dc dp dk so_3 sn_4 sb_5 se_6 sf_7 sc_8 sp_9 sk_10 nb ne nf nc np nk tk)) [0, 37, 38, 39, 40, 11, 12, 13, 14, 15, 16, 17, 18, 19, 20, 21, 22, 23, 24, 25, 26, 27, 28, 29, 30, 31, 32, 33, 34, 35, 36, 1, 2, 3, 4, 5, 6, 7, 8, 9, 10] rfl rfl
    refine lv_aload_n hx hb dX5_goBack_34 rfl (lv_at hl 0 rfl) ?_
    refine va_get (D := gD G) (ci := 5) (v := .ref qd) (C := RX5) (T := TX5) (N := 7) hx hb hts k_X5_goBack_inX5 hown hK hP 0 rfl rfl 0 (by decide) (hts _ k_X5_goBack_f10) (fun _ h9 => h9) rfl dX5_goBack_35 ?_
    refine lv_aload_n hx hb dX5_goBack_38 rfl (lv_at hl 0 rfl) ?_
    refine va_get (D := gD G) (ci := 5) (v := .ref qn) (C := RX5) (T := TX5) (N := 7) hx hb hts k_X5_goBack_inX5 hown hK hP 0 rfl rfl 2 (by decide) (hts _ k_X5_goBack_f23) (fun _ h9 => h9) rfl dX5_goBack_39 ?_
    refine lv_iload_n hx hb dX5_goBack_42 rfl (lv_at hl 1 rfl) ?_
    obtain ⟨h11, hw⟩ := hw
    refine va_aldq hx hb hK hP 31 2 rfl rfl h11 dX5_goBack_43 ?_
    rcases c2 h11 with hc | hc
    · have hw := hw.1 hc
      refine W.eq (g2 := F0 m 44 ls [.ref qn0, .ref qd]) (by rw [hc]; rfl) ?_
      refine kc_v (kr_V [] ⟨hx, hb, hml, hown, hts⟩ (cn_X1_copyFrom l G qd qdb qde qdf qn0 qn0b qn0e qn0f db de df dc dp dk (nb 0) (ne 0) (nf 0) (nc 0) (np 0) (nk 0) hw H.size) (cwV 1 hts gX5_goBack_X1_copyFrom rfl rfl rfl (by decide +kernel) ⟨Nat.le_of_ble_eq_true rfl, Nat.le_of_ble_eq_true rfl⟩) hK hG hP hD hS hA [1, 2, 3, 4, 32, 33, 34, 35] rfl rfl 1 1 rfl rfl rfl hl.1 rfl (Nat.le_of_ble_eq_true rfl) dX5_goBack_44 ⟨Nat.le_of_ble_eq_true rfl, Nat.le_of_ble_eq_true rfl⟩) hP hD hS hA [1, 2, 3, 4, 32, 33, 34, 35] [0, 5, 6, 7, 8, 9, 10, 11, 12, 13, 14, 15, 16, 17, 18, 19, 20, 21, 22, 23, 24, 25, 26, 27, 28, 29, 30, 31, 36, 37, 38, 39, 40] rfl rfl rfl (by decide) (fun u H locs hw hP hD hS => ?_)
      obtain ⟨db_12, de_13, df_14, dc_15, dp_16, dk_17⟩ := u
      try dsimp only at hw
      have hP := hP.sub (ws' := (w0_X5_goBack G qm qd qs qn qk qt qr qx qdb qde qdf qsa qs0 qs0b qs0e qs0f qs1 qs1b qs1e qs1f qs2 qs2b qs2e qs2f qs3 qs3b qs3e qs3f qs4 qs4b qs4e qs4f qs5 qs5b qs5e qs5f qn0 qn0b qn0e qn0f qn1 qn1b qn1e qn1f db_12 de_13 df_14 dc_15 dp_16 dk_17 so_3 sn_4 sb_5 se_6 sf_7 sc_8 sp_9 sk_10 nb ne nf nc np nk tk)) [0, 33, 34, 35, 36, 1, 2, 3, 4, 5, 6, 7, 8, 9, 10, 11, 12, 13, 14, 15, 16, 17, 18, 19, 20, 21, 22, 23, 24, 25, 26, 27, 37, 38, 39, 40, 28, 29, 30, 31, 32] rfl
      have hD := hD.sub (ws' := (w0_X5_goBack G qm qd qs qn qk qt qr qx qdb qde qdf qsa qs0 qs0b qs0e qs0f qs1 qs1b qs1e qs1f qs2 qs2b qs2e qs2f qs3 qs3b qs3e qs3f qs4 qs4b qs4e qs4f qs5 qs5b qs5e qs5f qn0 qn0b qn0e qn0f qn1 qn1b qn1e qn1f db_12 de_13 df_14 dc_15 dp_16 dk_17 so_3 sn_4 sb_5 se_6 sf_7 sc_8 sp_9 sk_10 nb ne nf nc np nk tk)) [0, 33, 34, 35, 36, 1, 2, 3, 4, 5, 6, 7, 8, 9, 10, 11, 12, 13, 14, 15, 16, 17, 18, 19, 20, 21, 22, 23, 24, 25, 26, 27, 37, 38, 39, 40, 28, 29, 30, 31, 32] rfl rfl
      exact fin_x (Nat.le_of_ble_eq_true rfl) (Nat.le_of_ble_eq_true rfl) (fin_v (db_12, de_13, df_14, dc_15, dp_16, dk_17, so_3, sn_4, sb_5, se_6, sf_7, sc_8, sp_9, sk_10) hx hb hr hlocks hK hS hP hD hw dX5_goBack_47)
    · have hw := hw.2 hc
      refine W.eq (g2 := F0 m 44 ls [.ref qn1, .ref qd]) (by rw [hc]; rfl) ?_
      refine kc_v (kr_V [] ⟨hx, hb, hml, hown, hts⟩ (cn_X1_copyFrom l G qd qdb qde qdf qn1 qn1b qn1e qn1f db de df dc dp dk (nb 1) (ne 1) (nf 1) (nc 1) (np 1) (nk 1) hw H.size) (cwV 1 hts gX5_goBack_X1_copyFrom rfl rfl rfl (by decide +kernel) ⟨Nat.le_of_ble_eq_true rfl, Nat.le_of_ble_eq_true rfl⟩) hK hG hP hD hS hA [1, 2, 3, 4, 36, 37, 38, 39] rfl rfl 1 1 rfl rfl rfl hl.1 rfl (Nat.le_of_ble_eq_true rfl) dX5_goBack_44 ⟨Nat.le_of_ble_eq_true rfl, Nat.le_of_ble_eq_true rfl⟩) hP hD hS hA [1, 2, 3, 4, 36, 37, 38, 39] [0, 5, 6, 7, 8, 9, 10, 11, 12, 13, 14, 15, 16, 17, 18, 19, 20, 21, 22, 23, 24, 25, 26, 27, 28, 29, 30, 31, 32, 33, 34, 35, 40] rfl rfl rfl (by decide) (fun u H locs hw hP hD hS => ?_)
      obtain ⟨db_18, de_19, df_20, dc_21, dp_22, dk_23⟩ := u
      try dsimp only at hw
      have hP := hP.sub (ws' := (w0_X5_goBack G qm qd qs qn qk qt qr qx qdb qde qdf qsa qs0 qs0b qs0e qs0f qs1 qs1b qs1e qs1f qs2 qs2b qs2e qs2f qs3 qs3b qs3e qs3f qs4 qs4b qs4e qs4f qs5 qs5b qs5e qs5f qn0 qn0b qn0e qn0f qn1 qn1b qn1e qn1f db_18 de_19 df_20 dc_21 dp_22 dk_23 so_3 sn_4 sb_5 se_6 sf_7 sc_8 sp_9 sk_10 nb ne nf nc np nk tk)) [0, 33, 34, 35, 36, 1, 2, 3, 4, 5, 6, 7, 8, 9, 10, 11, 12, 13, 14, 15, 16, 17, 18, 19, 20, 21, 22, 23, 24, 25, 26, 27, 28, 29, 30, 31, 37, 38, 39, 40, 32] rfl
      have hD := hD.sub (ws' := (w0_X5_goBack G qm qd qs qn qk qt qr qx qdb qde qdf qsa qs0 qs0b qs0e qs0f qs1 qs1b qs1e qs1f qs2 qs2b qs2e qs2f qs3 qs3b qs3e qs3f qs4 qs4b qs4e qs4f qs5 qs5b qs5e qs5f qn0 qn0b qn0e qn0f qn1 qn1b qn1e qn1f db_18 de_19 df_20 dc_21 dp_22 dk_23 so_3 sn_4 sb_5 se_6 sf_7 sc_8 sp_9 sk_10 nb ne nf nc np nk tk)) [0, 33, 34, 35, 36, 1, 2, 3, 4, 5, 6, 7, 8, 9, 10, 11, 12, 13, 14, 15, 16, 17, 18, 19, 20, 21, 22, 23, 24, 25, 26, 27, 28, 29, 30, 31, 37, 38, 39, 40, 32] rfl rfl
      exact fin_x (Nat.le_of_ble_eq_true rfl) (Nat.le_of_ble_eq_true rfl) (fin_v (db_18, de_19, df_20, dc_21, dp_22, dk_23, so_3, sn_4, sb_5, se_6, sf_7, sc_8, sp_9, sk_10) hx hb hr hlocks hK hS hP hD hw dX5_goBack_47)
  · have hw := hw.2 cd2
    exact kth (nL := 2) "no snapshot in this slot" (db, de, df, dc, dp, dk, so, sn, sb, se, sf, sc, sp, sk) hx hb hst hown hts hG hnt hlocks hml hl.1 hK hS hP hD hw ⟨by decide +kernel, by decide +kernel⟩ (by decide +kernel) k_X5_goBack_l93 k_X5_goBack_i93 k_X5_goBack_a97 tnb_97 tgd_97 dX5_goBack_13 dX5_goBack_16 dX5_goBack_22 ⟨dX5_goBack_17, dX5_goBack_19⟩ ⟨by decide, by decide, by decide, by decide⟩ (Nat.le_of_ble_eq_true rfl) (Nat.le_of_ble_eq_true rfl)

abbrev w0_X5_undo (G : mG) (qm : Nat) (qd : Nat) (qs : Nat) (qn : Nat) (qk : Nat) (qt : Nat) (qr : Nat) (qx : Nat) (qdb : Nat) (qde : Nat) (qdf : Nat) (qsa : Nat) (qs0 : Nat) (qs0b : Nat) (qs0e : Nat) (qs0f : Nat) (qs1 : Nat) (qs1b : Nat) (qs1e : Nat) (qs1f : Nat) (qs2 : Nat) (qs2b : Nat) (qs2e : Nat) (qs2f : Nat) (qs3 : Nat) (qs3b : Nat) (qs3e : Nat) (qs3f : Nat) (qs4 : Nat) (qs4b : Nat) (qs4e : Nat) (qs4f : Nat) (qs5 : Nat) (qs5b : Nat) (qs5e : Nat) (qs5f : Nat) (db : Nat → Int32) (de : Nat → Int32) (df : Nat → Int32) (dc : Int32) (dp : Int32) (dk : Int32) (so : Int32) (sn : Int32) (sb : Nat → Nat → Int32) (se : Nat → Nat → Int32) (sf : Nat → Nat → Int32) (sc : Nat → Int32) (sp : Nat → Int32) (sk : Nat → Int32) : va_W := [(qm, .inr (5, [.ref qd, .ref qs, .ref qn, .ref qk, .ref qt, .ref qr, .ref qx])), (qd, .inr (1, [.ref qdb, .ref qde, .ref qdf, .int dc, .int dp, .int dk])), (qdb, .inl (gI G, (14, .inl db))), (qde, .inl (gI G, (14, .inl de))), (qdf, .inl (gI G, (14, .inl df))), (qs, .inr (3, [.ref qsa, .int so, .int sn])), (qsa, .inl (gQ G, (6, .inr (.inr (.inr (.inr (g6 qs0 qs1 qs2 qs3 qs4 qs5))))))), (qs0, .inr (1, [.ref qs0b, .ref qs0e, .ref qs0f, .int (sc 0), .int (sp 0), .int (sk 0)])), (qs0b, .inl (gI G, (14, .inl (sb 0)))), (qs0e, .inl (gI G, (14, .inl (se 0)))), (qs0f, .inl (gI G, (14, .inl (sf 0)))), (qs1, .inr (1, [.ref qs1b, .ref qs1e, .ref qs1f, .int (sc 1), .int (sp 1), .int (sk 1)])), (qs1b, .inl (gI G, (14, .inl (sb 1)))), (qs1e, .inl (gI G, (14, .inl (se 1)))), (qs1f, .inl (gI G, (14, .inl (sf 1)))), (qs2, .inr (1, [.ref qs2b, .ref qs2e, .ref qs2f, .int (sc 2), .int (sp 2), .int (sk 2)])), (qs2b, .inl (gI G, (14, .inl (sb 2)))), (qs2e, .inl (gI G, (14, .inl (se 2)))), (qs2f, .inl (gI G, (14, .inl (sf 2)))), (qs3, .inr (1, [.ref qs3b, .ref qs3e, .ref qs3f, .int (sc 3), .int (sp 3), .int (sk 3)])), (qs3b, .inl (gI G, (14, .inl (sb 3)))), (qs3e, .inl (gI G, (14, .inl (se 3)))), (qs3f, .inl (gI G, (14, .inl (sf 3)))), (qs4, .inr (1, [.ref qs4b, .ref qs4e, .ref qs4f, .int (sc 4), .int (sp 4), .int (sk 4)])), (qs4b, .inl (gI G, (14, .inl (sb 4)))), (qs4e, .inl (gI G, (14, .inl (se 4)))), (qs4f, .inl (gI G, (14, .inl (sf 4)))), (qs5, .inr (1, [.ref qs5b, .ref qs5e, .ref qs5f, .int (sc 5), .int (sp 5), .int (sk 5)])), (qs5b, .inl (gI G, (14, .inl (sb 5)))), (qs5e, .inl (gI G, (14, .inl (se 5)))), (qs5f, .inl (gI G, (14, .inl (sf 5))))]
set_option maxRecDepth 100000 in
theorem k_X5_undo_inX5 : ∀ w ∈ u_ws RX5 TX5 7, w ∈ wsX5_undo := by decide +kernel
set_option maxRecDepth 100000 in
theorem k_X5_undo_f19 : Cond.fieldLink RX5 19 "RehearsalRoom" "saved" "LRehearsalRoom$SavedDays;" ∈ wsX5_undo := by decide +kernel
set_option maxRecDepth 100000 in
theorem k_X5_undo_inX3 : ∀ w ∈ u_ws RX3 TX3 3, w ∈ wsX5_undo := by decide +kernel
set_option maxRecDepth 100000 in
theorem k_X5_undo_f191 : Cond.fieldLink RX5 191 "RehearsalRoom$SavedDays" "count" "I" ∈ wsX5_undo := by decide +kernel
set_option maxRecDepth 100000 in
theorem k_X5_undo_f10 : Cond.fieldLink RX5 10 "RehearsalRoom" "day" "LRehearsalRoom$Day;" ∈ wsX5_undo := by decide +kernel
set_option maxRecDepth 100000 in
theorem k_X5_undo_l93 : Cond.classLink RX5 93 "java/lang/IllegalStateException" ∈ wsX5_undo := by decide +kernel
set_option maxRecDepth 100000 in
theorem k_X5_undo_i93 : Cond.initialized "java/lang/IllegalStateException" ∈ wsX5_undo := by decide +kernel
set_option maxRecDepth 100000 in
theorem k_X5_undo_a97 : ∀ w ∈ (vx_atS RX5 97 "java/lang/IllegalStateException" gSup).filter goodWord, w ∈ wsX5_undo := by decide +kernel
set_option maxHeartbeats 8000000 in
set_option maxRecDepth 100000 in
theorem cx_X5_undo (l : Launch) (hst : l.stackTraces = false) (G : mG) (qm : Nat) (qd : Nat) (qs : Nat) (qn : Nat) (qk : Nat) (qt : Nat) (qr : Nat) (qx : Nat) (qdb : Nat) (qde : Nat) (qdf : Nat) (qsa : Nat) (qs0 : Nat) (qs0b : Nat) (qs0e : Nat) (qs0f : Nat) (qs1 : Nat) (qs1b : Nat) (qs1e : Nat) (qs1f : Nat) (qs2 : Nat) (qs2b : Nat) (qs2e : Nat) (qs2f : Nat) (qs3 : Nat) (qs3b : Nat) (qs3e : Nat) (qs3f : Nat) (qs4 : Nat) (qs4b : Nat) (qs4e : Nat) (qs4f : Nat) (qs5 : Nat) (qs5b : Nat) (qs5e : Nat) (qs5f : Nat) (db : Nat → Int32) (de : Nat → Int32) (df : Nat → Int32) (dc : Int32) (dp : Int32) (dk : Int32) (so : Int32) (sn : Int32) (sb : Nat → Nat → Int32) (se : Nat → Nat → Int32) (sf : Nat → Nat → Int32) (sc : Nat → Int32) (sp : Nat → Int32) (sk : Nat → Int32) {Q : (Nat → Int32) → (Nat → Int32) → (Nat → Int32) → Int32 → Int32 → Int32 → Int32 → Prop} {X : String → (Nat → Int32) → (Nat → Int32) → (Nat → Int32) → Int32 → Int32 → Int32 → Int32 → Prop} (hw : wx_X5_undo db de df dc dp dk so sn sb se sf sc sp sk Q X) (sz : Nat) :
    vx_Met l yX5_undo wsX5_undo ({ frames := 6, cells := 1, slots := 6, locals := 90 } : Room) (va_Pc [.ref qm] (mPre G (w0_X5_undo G qm qd qs qn qk qt qr qx qdb qde qdf qsa qs0 qs0b qs0e qs0f qs1 qs1b qs1e qs1f qs2 qs2b qs2e qs2f qs3 qs3b qs3e qs3f qs4 qs4b qs4e qs4f qs5 qs5b qs5e qs5f db de df dc dp dk so sn sb se sf sc sp sk) sz)) (va_Qv (fun (u : (Nat → Int32) × (Nat → Int32) × (Nat → Int32) × Int32 × Int32 × Int32 × Int32) => Q u.1 u.2.1 u.2.2.1 u.2.2.2.1 u.2.2.2.2.1 u.2.2.2.2.2.1 u.2.2.2.2.2.2) (mBk G (va_A (w0_X5_undo G qm qd qs qn qk qt qr qx qdb qde qdf qsa qs0 qs0b qs0e qs0f qs1 qs1b qs1e qs1f qs2 qs2b qs2e qs2f qs3 qs3b qs3e qs3f qs4 qs4b qs4e qs4f qs5 qs5b qs5e qs5f db de df dc dp dk so sn sb se sf sc sp sk) sz) (fun (u : (Nat → Int32) × (Nat → Int32) × (Nat → Int32) × Int32 × Int32 × Int32 × Int32) => (w0_X5_undo G qm qd qs qn qk qt qr qx qdb qde qdf qsa qs0 qs0b qs0e qs0f qs1 qs1b qs1e qs1f qs2 qs2b qs2e qs2f qs3 qs3b qs3e qs3f qs4 qs4b qs4e qs4f qs5 qs5b qs5e qs5f u.1 u.2.1 u.2.2.1 u.2.2.2.1 u.2.2.2.2.1 u.2.2.2.2.2.1 so u.2.2.2.2.2.2 sb se sf sc sp sk))) (va_A (w0_X5_undo G qm qd qs qn qk qt qr qx qdb qde qdf qsa qs0 qs0b qs0e qs0f qs1 qs1b qs1e qs1f qs2 qs2b qs2e qs2f qs3 qs3b qs3e qs3f qs4 qs4b qs4e qs4f qs5 qs5b qs5e qs5f db de df dc dp dk so sn sb se sf sc sp sk) sz)) (vx_X (fun _ => True) (fun E u t => (fun (E : String) (u : (Nat → Int32) × (Nat → Int32) × (Nat → Int32) × Int32 × Int32 × Int32 × Int32) => X E u.1 u.2.1 u.2.2.1 u.2.2.2.1 u.2.2.2.2.1 u.2.2.2.2.2.1 u.2.2.2.2.2.2) E u ∧ mBk G (va_A (w0_X5_undo G qm qd qs qn qk qt qr qx qdb qde qdf qsa qs0 qs0b qs0e qs0f qs1 qs1b qs1e qs1f qs2 qs2b qs2e qs2f qs3 qs3b qs3e qs3f qs4 qs4b qs4e qs4f qs5 qs5b qs5e qs5f db de df dc dp dk so sn sb se sf sc sp sk) sz) (fun (u : (Nat → Int32) × (Nat → Int32) × (Nat → Int32) × Int32 × Int32 × Int32 × Int32) => (w0_X5_undo G qm qd qs qn qk qt qr qx qdb qde qdf qsa qs0 qs0b qs0e qs0f qs1 qs1b qs1e qs1f qs2 qs2b qs2e qs2f qs3 qs3b qs3e qs3f qs4 qs4b qs4e qs4f qs5 qs5b qs5e qs5f u.1 u.2.1 u.2.2.1 u.2.2.2.1 u.2.2.2.2.1 u.2.2.2.2.2.1 so u.2.2.2.2.2.2 sb se sf sc sp sk)) u t) (va_A (w0_X5_undo G qm qd qs qn qk qt qr qx qdb qde qdf qsa qs0 qs0b qs0e qs0f qs1 qs1b qs1e qs1f qs2 qs2b qs2e qs2f qs3 qs3b qs3e qs3f qs4 qs4b qs4e qs4f qs5 qs5b qs5e qs5f db de df dc dp dk so sn sb se sf sc sp sk) sz)) 1 6 (va_A (w0_X5_undo G qm qd qs qn qk qt qr qx qdb qde qdf qsa qs0 qs0b qs0e qs0f qs1 qs1b qs1e qs1f qs2 qs2b qs2e qs2f qs3 qs3b qs3e qs3f qs4 qs4b qs4e qs4f qs5 qs5b qs5e qs5f db de df dc dp dk so sn sb se sf sc sp sk) sz) := by
  refine mx_v (cc := cX5_undo) (maxL := 1) (ret := none) (post := (fun (u : (Nat → Int32) × (Nat → Int32) × (Nat → Int32) × Int32 × Int32 × Int32 × Int32) => Q u.1 u.2.1 u.2.2.1 u.2.2.2.1 u.2.2.2.2.1 u.2.2.2.2.2.1 u.2.2.2.2.2.2)) (w1 := (fun (u : (Nat → Int32) × (Nat → Int32) × (Nat → Int32) × Int32 × Int32 × Int32 × Int32) => (w0_X5_undo G qm qd qs qn qk qt qr qx qdb qde qdf qsa qs0 qs0b qs0e qs0f qs1 qs1b qs1e qs1f qs2 qs2b qs2e qs2f qs3 qs3b qs3e qs3f qs4 qs4b qs4e qs4f qs5 qs5b qs5e qs5f u.1 u.2.1 u.2.2.1 u.2.2.2.1 u.2.2.2.2.1 u.2.2.2.2.2.1 so u.2.2.2.2.2.2 sb se sf sc sp sk))) (px := (fun (E : String) (u : (Nat → Int32) × (Nat → Int32) × (Nat → Int32) × Int32 × Int32 × Int32 × Int32) => X E u.1 u.2.1 u.2.2.1 u.2.2.2.1 u.2.2.2.2.1 u.2.2.2.2.2.1 u.2.2.2.2.2.2)) (by decide) rfl (Nat.le_of_ble_eq_true rfl) ?_ sz
  intro p e s m below meth c A ls H locs hx hb hr hml hown hts hlocks hnt hK hG hP hD hS hA hl
  have hown : s.vm.findClass RX5 = some m.cls := hown
  have hl : lv_has ls 1 [(0, .ref qm)] := hl
  unfold wx_X5_undo at hw
  refine lv_aload_n hx hb dX5_undo_0 rfl (lv_at hl 0 rfl) ?_
  refine va_get (D := gD G) (ci := 5) (v := .ref qs) (C := RX5) (T := TX5) (N := 7) hx hb hts k_X5_undo_inX5 hown hK hP 0 rfl rfl 1 (by decide) (hts _ k_X5_undo_f19) (fun _ h9 => h9) rfl dX5_undo_1 ?_
  refine va_get (D := gD G) (ci := 3) (v := .int sn) (C := RX3) (T := TX3) (N := 3) hx hb hts k_X5_undo_inX3 hown hK hP 5 rfl rfl 2 (by decide) (hts _ k_X5_undo_f191) (fun _ h9 => h9) rfl dX5_undo_4 ?_
  refine lv_if_ne (tgt := 20) hx hb dX5_undo_7 (by decide) (fun cd1 => ?_) (fun cd1 => ?_)
  · have hw := hw.1 cd1
    refine lv_aload_n hx hb dX5_undo_20 rfl (lv_at hl 0 rfl) ?_
    refine va_get (D := gD G) (ci := 5) (v := .ref qs) (C := RX5) (T := TX5) (N := 7) hx hb hts k_X5_undo_inX5 hown hK hP 0 rfl rfl 1 (by decide) (hts _ k_X5_undo_f19) (fun _ h9 => h9) rfl dX5_undo_21 ?_
    refine lv_aload_n hx hb dX5_undo_24 rfl (lv_at hl 0 rfl) ?_
    refine va_get (D := gD G) (ci := 5) (v := .ref qd) (C := RX5) (T := TX5) (N := 7) hx hb hts k_X5_undo_inX5 hown hK hP 0 rfl rfl 0 (by decide) (hts _ k_X5_undo_f10) (fun _ h9 => h9) rfl dX5_undo_25 ?_
    refine kc_v (kr_V [] ⟨hx, hb, hml, hown, hts⟩ (cn_X3_restoreLatest l G qs qsa qs0 qs0b qs0e qs0f qs1 qs1b qs1e qs1f qs2 qs2b qs2e qs2f qs3 qs3b qs3e qs3f qs4 qs4b qs4e qs4f qs5 qs5b qs5e qs5f qd qdb qde qdf so sn sb se sf sc sp sk db de df dc dp dk hw H.size) (cwV 1 hts gX5_undo_X3_restoreLatest rfl rfl rfl (by decide +kernel) ⟨Nat.le_of_ble_eq_true rfl, Nat.le_of_ble_eq_true rfl⟩) hK hG hP hD hS hA [5, 6, 7, 8, 9, 10, 11, 12, 13, 14, 15, 16, 17, 18, 19, 20, 21, 22, 23, 24, 25, 26, 27, 28, 29, 30, 1, 2, 3, 4] rfl rfl 3 5 rfl rfl rfl hl.1 rfl (Nat.le_of_ble_eq_true rfl) dX5_undo_28 ⟨Nat.le_of_ble_eq_true rfl, Nat.le_of_ble_eq_true rfl⟩) hP hD hS hA [5, 6, 7, 8, 9, 10, 11, 12, 13, 14, 15, 16, 17, 18, 19, 20, 21, 22, 23, 24, 25, 26, 27, 28, 29, 30, 1, 2, 3, 4] [0] rfl rfl rfl (by decide) (fun u H locs hw hP hD hS => ?_)
    obtain ⟨sn_2, db_3, de_4, df_5, dc_6, dp_7, dk_8⟩ := u
    try dsimp only at hw
    have hP := hP.sub (ws' := (w0_X5_undo G qm qd qs qn qk qt qr qx qdb qde qdf qsa qs0 qs0b qs0e qs0f qs1 qs1b qs1e qs1f qs2 qs2b qs2e qs2f qs3 qs3b qs3e qs3f qs4 qs4b qs4e qs4f qs5 qs5b qs5e qs5f db_3 de_4 df_5 dc_6 dp_7 dk_8 so sn_2 sb se sf sc sp sk)) [0, 27, 28, 29, 30, 1, 2, 3, 4, 5, 6, 7, 8, 9, 10, 11, 12, 13, 14, 15, 16, 17, 18, 19, 20, 21, 22, 23, 24, 25, 26] rfl
    have hD := hD.sub (ws' := (w0_X5_undo G qm qd qs qn qk qt qr qx qdb qde qdf qsa qs0 qs0b qs0e qs0f qs1 qs1b qs1e qs1f qs2 qs2b qs2e qs2f qs3 qs3b qs3e qs3f qs4 qs4b qs4e qs4f qs5 qs5b qs5e qs5f db_3 de_4 df_5 dc_6 dp_7 dk_8 so sn_2 sb se sf sc sp sk)) [0, 27, 28, 29, 30, 1, 2, 3, 4, 5, 6, 7, 8, 9, 10, 11, 12, 13, 14, 15, 16, 17, 18, 19, 20, 21, 22, 23, 24, 25, 26] rfl rfl
    exact fin_x (Nat.le_of_ble_eq_true rfl) (Nat.le_of_ble_eq_true rfl) (fin_v (db_3, de_4, df_5, dc_6, dp_7, dk_8, sn_2) hx hb hr hlocks hK hS hP hD hw dX5_undo_31)
  · have hw := hw.2 cd1
    exact kth (nL := 1) "no saved state" (db, de, df, dc, dp, dk, sn) hx hb hst hown hts hG hnt hlocks hml hl.1 hK hS hP hD hw ⟨by decide +kernel, by decide +kernel⟩ (by decide +kernel) k_X5_undo_l93 k_X5_undo_i93 k_X5_undo_a97 tnb_97 tgd_97 dX5_undo_10 dX5_undo_13 dX5_undo_19 ⟨dX5_undo_14, dX5_undo_16⟩ ⟨by decide, by decide, by decide, by decide⟩ (Nat.le_of_ble_eq_true rfl) (Nat.le_of_ble_eq_true rfl)

abbrev w0_X5_savedStates (G : mG) (qm : Nat) (qd : Nat) (qs : Nat) (qn : Nat) (qk : Nat) (qt : Nat) (qr : Nat) (qx : Nat) (qsa : Nat) (qs0 : Nat) (qs0b : Nat) (qs0e : Nat) (qs0f : Nat) (qs1 : Nat) (qs1b : Nat) (qs1e : Nat) (qs1f : Nat) (qs2 : Nat) (qs2b : Nat) (qs2e : Nat) (qs2f : Nat) (qs3 : Nat) (qs3b : Nat) (qs3e : Nat) (qs3f : Nat) (qs4 : Nat) (qs4b : Nat) (qs4e : Nat) (qs4f : Nat) (qs5 : Nat) (qs5b : Nat) (qs5e : Nat) (qs5f : Nat) (so : Int32) (sn : Int32) (sb : Nat → Nat → Int32) (se : Nat → Nat → Int32) (sf : Nat → Nat → Int32) (sc : Nat → Int32) (sp : Nat → Int32) (sk : Nat → Int32) : va_W := [(qm, .inr (5, [.ref qd, .ref qs, .ref qn, .ref qk, .ref qt, .ref qr, .ref qx])), (qs, .inr (3, [.ref qsa, .int so, .int sn])), (qsa, .inl (gQ G, (6, .inr (.inr (.inr (.inr (g6 qs0 qs1 qs2 qs3 qs4 qs5))))))), (qs0, .inr (1, [.ref qs0b, .ref qs0e, .ref qs0f, .int (sc 0), .int (sp 0), .int (sk 0)])), (qs0b, .inl (gI G, (14, .inl (sb 0)))), (qs0e, .inl (gI G, (14, .inl (se 0)))), (qs0f, .inl (gI G, (14, .inl (sf 0)))), (qs1, .inr (1, [.ref qs1b, .ref qs1e, .ref qs1f, .int (sc 1), .int (sp 1), .int (sk 1)])), (qs1b, .inl (gI G, (14, .inl (sb 1)))), (qs1e, .inl (gI G, (14, .inl (se 1)))), (qs1f, .inl (gI G, (14, .inl (sf 1)))), (qs2, .inr (1, [.ref qs2b, .ref qs2e, .ref qs2f, .int (sc 2), .int (sp 2), .int (sk 2)])), (qs2b, .inl (gI G, (14, .inl (sb 2)))), (qs2e, .inl (gI G, (14, .inl (se 2)))), (qs2f, .inl (gI G, (14, .inl (sf 2)))), (qs3, .inr (1, [.ref qs3b, .ref qs3e, .ref qs3f, .int (sc 3), .int (sp 3), .int (sk 3)])), (qs3b, .inl (gI G, (14, .inl (sb 3)))), (qs3e, .inl (gI G, (14, .inl (se 3)))), (qs3f, .inl (gI G, (14, .inl (sf 3)))), (qs4, .inr (1, [.ref qs4b, .ref qs4e, .ref qs4f, .int (sc 4), .int (sp 4), .int (sk 4)])), (qs4b, .inl (gI G, (14, .inl (sb 4)))), (qs4e, .inl (gI G, (14, .inl (se 4)))), (qs4f, .inl (gI G, (14, .inl (sf 4)))), (qs5, .inr (1, [.ref qs5b, .ref qs5e, .ref qs5f, .int (sc 5), .int (sp 5), .int (sk 5)])), (qs5b, .inl (gI G, (14, .inl (sb 5)))), (qs5e, .inl (gI G, (14, .inl (se 5)))), (qs5f, .inl (gI G, (14, .inl (sf 5))))]
set_option maxRecDepth 100000 in
theorem k_X5_savedStates_inX5 : ∀ w ∈ u_ws RX5 TX5 7, w ∈ wsX5_savedStates := by decide +kernel
set_option maxRecDepth 100000 in
theorem k_X5_savedStates_f19 : Cond.fieldLink RX5 19 "RehearsalRoom" "saved" "LRehearsalRoom$SavedDays;" ∈ wsX5_savedStates := by decide +kernel
set_option maxRecDepth 100000 in
theorem k_X5_savedStates_inX3 : ∀ w ∈ u_ws RX3 TX3 3, w ∈ wsX5_savedStates := by decide +kernel
set_option maxRecDepth 100000 in
theorem k_X5_savedStates_f191 : Cond.fieldLink RX5 191 "RehearsalRoom$SavedDays" "count" "I" ∈ wsX5_savedStates := by decide +kernel
set_option maxHeartbeats 8000000 in
set_option maxRecDepth 100000 in
theorem cn_X5_savedStates (l : Launch) (G : mG) (qm : Nat) (qd : Nat) (qs : Nat) (qn : Nat) (qk : Nat) (qt : Nat) (qr : Nat) (qx : Nat) (qsa : Nat) (qs0 : Nat) (qs0b : Nat) (qs0e : Nat) (qs0f : Nat) (qs1 : Nat) (qs1b : Nat) (qs1e : Nat) (qs1f : Nat) (qs2 : Nat) (qs2b : Nat) (qs2e : Nat) (qs2f : Nat) (qs3 : Nat) (qs3b : Nat) (qs3e : Nat) (qs3f : Nat) (qs4 : Nat) (qs4b : Nat) (qs4e : Nat) (qs4f : Nat) (qs5 : Nat) (qs5b : Nat) (qs5e : Nat) (qs5f : Nat) (so : Int32) (sn : Int32) (sb : Nat → Nat → Int32) (se : Nat → Nat → Int32) (sf : Nat → Nat → Int32) (sc : Nat → Int32) (sp : Nat → Int32) (sk : Nat → Int32) {Q : Int32 → Prop} (hw : wn_X5_savedStates sn Q) (sz : Nat) :
    Met l yX5_savedStates wsX5_savedStates ({ frames := 0, cells := 0, slots := 0, locals := 0 } : Room) (va_Pc [.ref qm] (mPre G (w0_X5_savedStates G qm qd qs qn qk qt qr qx qsa qs0 qs0b qs0e qs0f qs1 qs1b qs1e qs1f qs2 qs2b qs2e qs2f qs3 qs3b qs3e qs3f qs4 qs4b qs4e qs4f qs5 qs5b qs5e qs5f so sn sb se sf sc sp sk) sz)) (va_Qi (fun (r : Int32) (u : Unit) => Q r) (mBk G (va_A (w0_X5_savedStates G qm qd qs qn qk qt qr qx qsa qs0 qs0b qs0e qs0f qs1 qs1b qs1e qs1f qs2 qs2b qs2e qs2f qs3 qs3b qs3e qs3f qs4 qs4b qs4e qs4f qs5 qs5b qs5e qs5f so sn sb se sf sc sp sk) sz) (fun (u : Unit) => (w0_X5_savedStates G qm qd qs qn qk qt qr qx qsa qs0 qs0b qs0e qs0f qs1 qs1b qs1e qs1f qs2 qs2b qs2e qs2f qs3 qs3b qs3e qs3f qs4 qs4b qs4e qs4f qs5 qs5b qs5e qs5f so sn sb se sf sc sp sk))) (va_A (w0_X5_savedStates G qm qd qs qn qk qt qr qx qsa qs0 qs0b qs0e qs0f qs1 qs1b qs1e qs1f qs2 qs2b qs2e qs2f qs3 qs3b qs3e qs3f qs4 qs4b qs4e qs4f qs5 qs5b qs5e qs5f so sn sb se sf sc sp sk) sz)) 0 0 (va_A (w0_X5_savedStates G qm qd qs qn qk qt qr qx qsa qs0 qs0b qs0e qs0f qs1 qs1b qs1e qs1f qs2 qs2b qs2e qs2f qs3 qs3b qs3e qs3f qs4 qs4b qs4e qs4f qs5 qs5b qs5e qs5f so sn sb se sf sc sp sk) sz) := by
  refine ms_i (cc := cX5_savedStates) (maxL := 1) (ret := some .int) (post := (fun (r : Int32) (u : Unit) => Q r)) (w1 := (fun (u : Unit) => (w0_X5_savedStates G qm qd qs qn qk qt qr qx qsa qs0 qs0b qs0e qs0f qs1 qs1b qs1e qs1f qs2 qs2b qs2e qs2f qs3 qs3b qs3e qs3f qs4 qs4b qs4e qs4f qs5 qs5b qs5e qs5f so sn sb se sf sc sp sk))) (by decide) rfl (Nat.le_of_ble_eq_true rfl) ?_ sz
  intro p e s m below meth c A ls H locs hx hb hr hml hown hts hlocks hK hG hP hD hS hA hl
  have hown : s.vm.findClass RX5 = some m.cls := hown
  have hl : lv_has ls 1 [(0, .ref qm)] := hl
  unfold wn_X5_savedStates at hw
  refine lv_aload_n hx hb dX5_savedStates_0 rfl (lv_at hl 0 rfl) ?_
  refine va_get (D := gD G) (ci := 5) (v := .ref qs) (C := RX5) (T := TX5) (N := 7) hx hb hts k_X5_savedStates_inX5 hown hK hP 0 rfl rfl 1 (by decide) (hts _ k_X5_savedStates_f19) (fun _ h9 => h9) rfl dX5_savedStates_1 ?_
  refine va_get (D := gD G) (ci := 3) (v := .int sn) (C := RX3) (T := TX3) (N := 3) hx hb hts k_X5_savedStates_inX3 hown hK hP 1 rfl rfl 2 (by decide) (hts _ k_X5_savedStates_f191) (fun _ h9 => h9) rfl dX5_savedStates_4 ?_
  exact fin_i () hx hb hr hlocks hK hS hP hD hw dX5_savedStates_7

abbrev w0_X5_rehearsals (G : mG) (qm : Nat) (qd : Nat) (qs : Nat) (qn : Nat) (qk : Nat) (qt : Nat) (qr : Nat) (qx : Nat) (qdb : Nat) (qde : Nat) (qdf : Nat) (db : Nat → Int32) (de : Nat → Int32) (df : Nat → Int32) (dc : Int32) (dp : Int32) (dk : Int32) : va_W := [(qm, .inr (5, [.ref qd, .ref qs, .ref qn, .ref qk, .ref qt, .ref qr, .ref qx])), (qd, .inr (1, [.ref qdb, .ref qde, .ref qdf, .int dc, .int dp, .int dk])), (qdb, .inl (gI G, (14, .inl db))), (qde, .inl (gI G, (14, .inl de))), (qdf, .inl (gI G, (14, .inl df)))]
set_option maxRecDepth 100000 in
theorem k_X5_rehearsals_inX5 : ∀ w ∈ u_ws RX5 TX5 7, w ∈ wsX5_rehearsals := by decide +kernel
set_option maxRecDepth 100000 in
theorem k_X5_rehearsals_f10 : Cond.fieldLink RX5 10 "RehearsalRoom" "day" "LRehearsalRoom$Day;" ∈ wsX5_rehearsals := by decide +kernel
set_option maxRecDepth 100000 in
theorem k_X5_rehearsals_inX1 : ∀ w ∈ u_ws RX1 TX1 6, w ∈ wsX5_rehearsals := by decide +kernel
set_option maxRecDepth 100000 in
theorem k_X5_rehearsals_f71 : Cond.fieldLink RX5 71 "RehearsalRoom$Day" "count" "I" ∈ wsX5_rehearsals := by decide +kernel
set_option maxHeartbeats 8000000 in
set_option maxRecDepth 100000 in
theorem cn_X5_rehearsals (l : Launch) (G : mG) (qm : Nat) (qd : Nat) (qs : Nat) (qn : Nat) (qk : Nat) (qt : Nat) (qr : Nat) (qx : Nat) (qdb : Nat) (qde : Nat) (qdf : Nat) (db : Nat → Int32) (de : Nat → Int32) (df : Nat → Int32) (dc : Int32) (dp : Int32) (dk : Int32) {Q : Int32 → Prop} (hw : wn_X5_rehearsals dc Q) (sz : Nat) :
    Met l yX5_rehearsals wsX5_rehearsals ({ frames := 0, cells := 0, slots := 0, locals := 0 } : Room) (va_Pc [.ref qm] (mPre G (w0_X5_rehearsals G qm qd qs qn qk qt qr qx qdb qde qdf db de df dc dp dk) sz)) (va_Qi (fun (r : Int32) (u : Unit) => Q r) (mBk G (va_A (w0_X5_rehearsals G qm qd qs qn qk qt qr qx qdb qde qdf db de df dc dp dk) sz) (fun (u : Unit) => (w0_X5_rehearsals G qm qd qs qn qk qt qr qx qdb qde qdf db de df dc dp dk))) (va_A (w0_X5_rehearsals G qm qd qs qn qk qt qr qx qdb qde qdf db de df dc dp dk) sz)) 0 0 (va_A (w0_X5_rehearsals G qm qd qs qn qk qt qr qx qdb qde qdf db de df dc dp dk) sz) := by
  refine ms_i (cc := cX5_rehearsals) (maxL := 1) (ret := some .int) (post := (fun (r : Int32) (u : Unit) => Q r)) (w1 := (fun (u : Unit) => (w0_X5_rehearsals G qm qd qs qn qk qt qr qx qdb qde qdf db de df dc dp dk))) (by decide) rfl (Nat.le_of_ble_eq_true rfl) ?_ sz
  intro p e s m below meth c A ls H locs hx hb hr hml hown hts hlocks hK hG hP hD hS hA hl
  have hown : s.vm.findClass RX5 = some m.cls := hown
  have hl : lv_has ls 1 [(0, .ref qm)] := hl
  unfold wn_X5_rehearsals at hw
  refine lv_aload_n hx hb dX5_rehearsals_0 rfl (lv_at hl 0 rfl) ?_
  refine va_get (D := gD G) (ci := 5) (v := .ref qd) (C := RX5) (T := TX5) (N := 7) hx hb hts k_X5_rehearsals_inX5 hown hK hP 0 rfl rfl 0 (by decide) (hts _ k_X5_rehearsals_f10) (fun _ h9 => h9) rfl dX5_rehearsals_1 ?_
  refine va_get (D := gD G) (ci := 1) (v := .int dc) (C := RX1) (T := TX1) (N := 6) hx hb hts k_X5_rehearsals_inX1 hown hK hP 1 rfl rfl 3 (by decide) (hts _ k_X5_rehearsals_f71) (fun _ h9 => h9) rfl dX5_rehearsals_4 ?_
  exact fin_i () hx hb hr hlocks hK hS hP hD hw dX5_rehearsals_7

abbrev w0_X5_beginOf (G : mG) (qm : Nat) (qd : Nat) (qs : Nat) (qn : Nat) (qk : Nat) (qt : Nat) (qr : Nat) (qx : Nat) (qdb : Nat) (qde : Nat) (qdf : Nat) (db : Nat → Int32) (de : Nat → Int32) (df : Nat → Int32) (dc : Int32) (dp : Int32) (dk : Int32) : va_W := [(qm, .inr (5, [.ref qd, .ref qs, .ref qn, .ref qk, .ref qt, .ref qr, .ref qx])), (qd, .inr (1, [.ref qdb, .ref qde, .ref qdf, .int dc, .int dp, .int dk])), (qdb, .inl (gI G, (14, .inl db))), (qde, .inl (gI G, (14, .inl de))), (qdf, .inl (gI G, (14, .inl df)))]
set_option maxRecDepth 100000 in
theorem k_X5_beginOf_inX5 : ∀ w ∈ u_ws RX5 TX5 7, w ∈ wsX5_beginOf := by decide +kernel
set_option maxRecDepth 100000 in
theorem k_X5_beginOf_f10 : Cond.fieldLink RX5 10 "RehearsalRoom" "day" "LRehearsalRoom$Day;" ∈ wsX5_beginOf := by decide +kernel
set_option maxRecDepth 100000 in
theorem k_X5_beginOf_inX1 : ∀ w ∈ u_ws RX1 TX1 6, w ∈ wsX5_beginOf := by decide +kernel
set_option maxRecDepth 100000 in
theorem k_X5_beginOf_f104 : Cond.fieldLink RX5 104 "RehearsalRoom$Day" "begins" "[I" ∈ wsX5_beginOf := by decide +kernel
set_option maxHeartbeats 8000000 in
set_option maxRecDepth 100000 in
theorem cx_X5_beginOf (l : Launch) (hst : l.stackTraces = false) (G : mG) (qm : Nat) (qd : Nat) (qs : Nat) (qn : Nat) (qk : Nat) (qt : Nat) (qr : Nat) (qx : Nat) (qdb : Nat) (qde : Nat) (qdf : Nat) (db : Nat → Int32) (de : Nat → Int32) (df : Nat → Int32) (dc : Int32) (dp : Int32) (dk : Int32) (a1 : Int32) {Q : Int32 → Prop} {X : String → Prop} (hw : wx_X5_beginOf db dc a1 Q X) (sz : Nat) :
    vx_Met l yX5_beginOf wsX5_beginOf ({ frames := 7, cells := 1, slots := 6, locals := 111 } : Room) (va_Pc [.ref qm, .int a1] (mPre G (w0_X5_beginOf G qm qd qs qn qk qt qr qx qdb qde qdf db de df dc dp dk) sz)) (va_Qi (fun (r : Int32) (u : Unit) => Q r) (mBk G (va_A (w0_X5_beginOf G qm qd qs qn qk qt qr qx qdb qde qdf db de df dc dp dk) sz) (fun (u : Unit) => (w0_X5_beginOf G qm qd qs qn qk qt qr qx qdb qde qdf db de df dc dp dk))) (va_A (w0_X5_beginOf G qm qd qs qn qk qt qr qx qdb qde qdf db de df dc dp dk) sz)) (vx_X (fun _ => True) (fun E u t => (fun (E : String) (u : Unit) => X E) E u ∧ mBk G (va_A (w0_X5_beginOf G qm qd qs qn qk qt qr qx qdb qde qdf db de df dc dp dk) sz) (fun (u : Unit) => (w0_X5_beginOf G qm qd qs qn qk qt qr qx qdb qde qdf db de df dc dp dk)) u t) (va_A (w0_X5_beginOf G qm qd qs qn qk qt qr qx qdb qde qdf db de df dc dp dk) sz)) 1 6 (va_A (w0_X5_beginOf G qm qd qs qn qk qt qr qx qdb qde qdf db de df dc dp dk) sz) := by
  refine mx_i (cc := cX5_beginOf) (maxL := 2) (ret := some .int) (post := (fun (r : Int32) (u : Unit) => Q r)) (w1 := (fun (u : Unit) => (w0_X5_beginOf G qm qd qs qn qk qt qr qx qdb qde qdf db de df dc dp dk))) (px := (fun (E : String) (u : Unit) => X E)) (by decide) rfl (Nat.le_of_ble_eq_true rfl) ?_ sz
  intro p e s m below meth c A ls H locs hx hb hr hml hown hts hlocks hnt hK hG hP hD hS hA hl
  have hown : s.vm.findClass RX5 = some m.cls := hown
  have hl : lv_has ls 2 [(0, .ref qm), (1, .int a1)] := hl
  unfold wx_X5_beginOf at hw
  refine lv_aload_n hx hb dX5_beginOf_0 rfl (lv_at hl 0 rfl) ?_
  refine lv_iload_n hx hb dX5_beginOf_1 rfl (lv_at hl 1 rfl) ?_
  refine kxR_v (xr_V [] ⟨hx, hb, hml, hown, hts⟩ (cx_X5_requireRehearsal l hst G qm qd qs qn qk qt qr qx qdb qde qdf db de df dc dp dk a1 hw H.size) (cwV 1 hts gX5_beginOf_X5_requireRehearsal rfl rfl rfl (by decide +kernel) ⟨Nat.le_of_ble_eq_true rfl, Nat.le_of_ble_eq_true rfl⟩) hK hG hP hD hS hA [0, 1, 2, 3, 4] rfl rfl 5 0 rfl rfl rfl hl.1 rfl (Nat.le_of_ble_eq_true rfl) dX5_beginOf_2 ⟨Nat.le_of_ble_eq_true rfl, Nat.le_of_ble_eq_true rfl⟩) hP hD hS hA [0, 1, 2, 3, 4] rfl (fun E u ce q9 H locs hw hP hS h1 h2 h3 => kx_out () hnt hlocks h1 h2 h3 hK hS hP hD hw (Nat.le_of_ble_eq_true rfl) (Nat.le_of_ble_eq_true rfl)) (fun u H locs hw hP hS => ?_)
  try dsimp only at hw
  refine lv_aload_n hx hb dX5_beginOf_5 rfl (lv_at hl 0 rfl) ?_
  refine va_get (D := gD G) (ci := 5) (v := .ref qd) (C := RX5) (T := TX5) (N := 7) hx hb hts k_X5_beginOf_inX5 hown hK hP 0 rfl rfl 0 (by decide) (hts _ k_X5_beginOf_f10) (fun _ h9 => h9) rfl dX5_beginOf_6 ?_
  refine va_get (D := gD G) (ci := 1) (v := .ref qdb) (C := RX1) (T := TX1) (N := 6) hx hb hts k_X5_beginOf_inX1 hown hK hP 1 rfl rfl 0 (by decide) (hts _ k_X5_beginOf_f104) (fun _ h9 => h9) rfl dX5_beginOf_9 ?_
  refine lv_iload_n hx hb dX5_beginOf_12 rfl (lv_at hl 1 rfl) ?_
  obtain ⟨h1, hw⟩ := hw
  refine va_iald hx hb hK hP 2 0 rfl rfl h1 dX5_beginOf_13 ?_
  exact fin_x (Nat.le_of_ble_eq_true rfl) (Nat.le_of_ble_eq_true rfl) (fin_i () hx hb hr hlocks hK hS hP hD hw dX5_beginOf_14)

abbrev w0_X5_endOf (G : mG) (qm : Nat) (qd : Nat) (qs : Nat) (qn : Nat) (qk : Nat) (qt : Nat) (qr : Nat) (qx : Nat) (qdb : Nat) (qde : Nat) (qdf : Nat) (db : Nat → Int32) (de : Nat → Int32) (df : Nat → Int32) (dc : Int32) (dp : Int32) (dk : Int32) : va_W := [(qm, .inr (5, [.ref qd, .ref qs, .ref qn, .ref qk, .ref qt, .ref qr, .ref qx])), (qd, .inr (1, [.ref qdb, .ref qde, .ref qdf, .int dc, .int dp, .int dk])), (qdb, .inl (gI G, (14, .inl db))), (qde, .inl (gI G, (14, .inl de))), (qdf, .inl (gI G, (14, .inl df)))]
set_option maxRecDepth 100000 in
theorem k_X5_endOf_inX5 : ∀ w ∈ u_ws RX5 TX5 7, w ∈ wsX5_endOf := by decide +kernel
set_option maxRecDepth 100000 in
theorem k_X5_endOf_f10 : Cond.fieldLink RX5 10 "RehearsalRoom" "day" "LRehearsalRoom$Day;" ∈ wsX5_endOf := by decide +kernel
set_option maxRecDepth 100000 in
theorem k_X5_endOf_inX1 : ∀ w ∈ u_ws RX1 TX1 6, w ∈ wsX5_endOf := by decide +kernel
set_option maxRecDepth 100000 in
theorem k_X5_endOf_f107 : Cond.fieldLink RX5 107 "RehearsalRoom$Day" "ends" "[I" ∈ wsX5_endOf := by decide +kernel
set_option maxHeartbeats 8000000 in
set_option maxRecDepth 100000 in
theorem cx_X5_endOf (l : Launch) (hst : l.stackTraces = false) (G : mG) (qm : Nat) (qd : Nat) (qs : Nat) (qn : Nat) (qk : Nat) (qt : Nat) (qr : Nat) (qx : Nat) (qdb : Nat) (qde : Nat) (qdf : Nat) (db : Nat → Int32) (de : Nat → Int32) (df : Nat → Int32) (dc : Int32) (dp : Int32) (dk : Int32) (a1 : Int32) {Q : Int32 → Prop} {X : String → Prop} (hw : wx_X5_endOf de dc a1 Q X) (sz : Nat) :
    vx_Met l yX5_endOf wsX5_endOf ({ frames := 7, cells := 1, slots := 6, locals := 111 } : Room) (va_Pc [.ref qm, .int a1] (mPre G (w0_X5_endOf G qm qd qs qn qk qt qr qx qdb qde qdf db de df dc dp dk) sz)) (va_Qi (fun (r : Int32) (u : Unit) => Q r) (mBk G (va_A (w0_X5_endOf G qm qd qs qn qk qt qr qx qdb qde qdf db de df dc dp dk) sz) (fun (u : Unit) => (w0_X5_endOf G qm qd qs qn qk qt qr qx qdb qde qdf db de df dc dp dk))) (va_A (w0_X5_endOf G qm qd qs qn qk qt qr qx qdb qde qdf db de df dc dp dk) sz)) (vx_X (fun _ => True) (fun E u t => (fun (E : String) (u : Unit) => X E) E u ∧ mBk G (va_A (w0_X5_endOf G qm qd qs qn qk qt qr qx qdb qde qdf db de df dc dp dk) sz) (fun (u : Unit) => (w0_X5_endOf G qm qd qs qn qk qt qr qx qdb qde qdf db de df dc dp dk)) u t) (va_A (w0_X5_endOf G qm qd qs qn qk qt qr qx qdb qde qdf db de df dc dp dk) sz)) 1 6 (va_A (w0_X5_endOf G qm qd qs qn qk qt qr qx qdb qde qdf db de df dc dp dk) sz) := by
  refine mx_i (cc := cX5_endOf) (maxL := 2) (ret := some .int) (post := (fun (r : Int32) (u : Unit) => Q r)) (w1 := (fun (u : Unit) => (w0_X5_endOf G qm qd qs qn qk qt qr qx qdb qde qdf db de df dc dp dk))) (px := (fun (E : String) (u : Unit) => X E)) (by decide) rfl (Nat.le_of_ble_eq_true rfl) ?_ sz
  intro p e s m below meth c A ls H locs hx hb hr hml hown hts hlocks hnt hK hG hP hD hS hA hl
  have hown : s.vm.findClass RX5 = some m.cls := hown
  have hl : lv_has ls 2 [(0, .ref qm), (1, .int a1)] := hl
  unfold wx_X5_endOf at hw
  refine lv_aload_n hx hb dX5_endOf_0 rfl (lv_at hl 0 rfl) ?_
  refine lv_iload_n hx hb dX5_endOf_1 rfl (lv_at hl 1 rfl) ?_
  refine kxR_v (xr_V [] ⟨hx, hb, hml, hown, hts⟩ (cx_X5_requireRehearsal l hst G qm qd qs qn qk qt qr qx qdb qde qdf db de df dc dp dk a1 hw H.size) (cwV 1 hts gX5_endOf_X5_requireRehearsal rfl rfl rfl (by decide +kernel) ⟨Nat.le_of_ble_eq_true rfl, Nat.le_of_ble_eq_true rfl⟩) hK hG hP hD hS hA [0, 1, 2, 3, 4] rfl rfl 5 0 rfl rfl rfl hl.1 rfl (Nat.le_of_ble_eq_true rfl) dX5_endOf_2 ⟨Nat.le_of_ble_eq_true rfl, Nat.le_of_ble_eq_true rfl⟩) hP hD hS hA [0, 1, 2, 3, 4] rfl (fun E u ce q9 H locs hw hP hS h1 h2 h3 => kx_out () hnt hlocks h1 h2 h3 hK hS hP hD hw (Nat.le_of_ble_eq_true rfl) (Nat.le_of_ble_eq_true rfl)) (fun u H locs hw hP hS => ?_)
  try dsimp only at hw
  refine lv_aload_n hx hb dX5_endOf_5 rfl (lv_at hl 0 rfl) ?_
  refine va_get (D := gD G) (ci := 5) (v := .ref qd) (C := RX5) (T := TX5) (N := 7) hx hb hts k_X5_endOf_inX5 hown hK hP 0 rfl rfl 0 (by decide) (hts _ k_X5_endOf_f10) (fun _ h9 => h9) rfl dX5_endOf_6 ?_
  refine va_get (D := gD G) (ci := 1) (v := .ref qde) (C := RX1) (T := TX1) (N := 6) hx hb hts k_X5_endOf_inX1 hown hK hP 1 rfl rfl 1 (by decide) (hts _ k_X5_endOf_f107) (fun _ h9 => h9) rfl dX5_endOf_9 ?_
  refine lv_iload_n hx hb dX5_endOf_12 rfl (lv_at hl 1 rfl) ?_
  obtain ⟨h1, hw⟩ := hw
  refine va_iald hx hb hK hP 3 0 rfl rfl h1 dX5_endOf_13 ?_
  exact fin_x (Nat.le_of_ble_eq_true rfl) (Nat.le_of_ble_eq_true rfl) (fin_i () hx hb hr hlocks hK hS hP hD hw dX5_endOf_14)

abbrev w0_X5_fameOf (G : mG) (qm : Nat) (qd : Nat) (qs : Nat) (qn : Nat) (qk : Nat) (qt : Nat) (qr : Nat) (qx : Nat) (qdb : Nat) (qde : Nat) (qdf : Nat) (db : Nat → Int32) (de : Nat → Int32) (df : Nat → Int32) (dc : Int32) (dp : Int32) (dk : Int32) : va_W := [(qm, .inr (5, [.ref qd, .ref qs, .ref qn, .ref qk, .ref qt, .ref qr, .ref qx])), (qd, .inr (1, [.ref qdb, .ref qde, .ref qdf, .int dc, .int dp, .int dk])), (qdb, .inl (gI G, (14, .inl db))), (qde, .inl (gI G, (14, .inl de))), (qdf, .inl (gI G, (14, .inl df)))]
set_option maxRecDepth 100000 in
theorem k_X5_fameOf_inX5 : ∀ w ∈ u_ws RX5 TX5 7, w ∈ wsX5_fameOf := by decide +kernel
set_option maxRecDepth 100000 in
theorem k_X5_fameOf_f10 : Cond.fieldLink RX5 10 "RehearsalRoom" "day" "LRehearsalRoom$Day;" ∈ wsX5_fameOf := by decide +kernel
set_option maxRecDepth 100000 in
theorem k_X5_fameOf_inX1 : ∀ w ∈ u_ws RX1 TX1 6, w ∈ wsX5_fameOf := by decide +kernel
set_option maxRecDepth 100000 in
theorem k_X5_fameOf_f78 : Cond.fieldLink RX5 78 "RehearsalRoom$Day" "fames" "[I" ∈ wsX5_fameOf := by decide +kernel
set_option maxHeartbeats 8000000 in
set_option maxRecDepth 100000 in
theorem cx_X5_fameOf (l : Launch) (hst : l.stackTraces = false) (G : mG) (qm : Nat) (qd : Nat) (qs : Nat) (qn : Nat) (qk : Nat) (qt : Nat) (qr : Nat) (qx : Nat) (qdb : Nat) (qde : Nat) (qdf : Nat) (db : Nat → Int32) (de : Nat → Int32) (df : Nat → Int32) (dc : Int32) (dp : Int32) (dk : Int32) (a1 : Int32) {Q : Int32 → Prop} {X : String → Prop} (hw : wx_X5_fameOf df dc a1 Q X) (sz : Nat) :
    vx_Met l yX5_fameOf wsX5_fameOf ({ frames := 7, cells := 1, slots := 6, locals := 111 } : Room) (va_Pc [.ref qm, .int a1] (mPre G (w0_X5_fameOf G qm qd qs qn qk qt qr qx qdb qde qdf db de df dc dp dk) sz)) (va_Qi (fun (r : Int32) (u : Unit) => Q r) (mBk G (va_A (w0_X5_fameOf G qm qd qs qn qk qt qr qx qdb qde qdf db de df dc dp dk) sz) (fun (u : Unit) => (w0_X5_fameOf G qm qd qs qn qk qt qr qx qdb qde qdf db de df dc dp dk))) (va_A (w0_X5_fameOf G qm qd qs qn qk qt qr qx qdb qde qdf db de df dc dp dk) sz)) (vx_X (fun _ => True) (fun E u t => (fun (E : String) (u : Unit) => X E) E u ∧ mBk G (va_A (w0_X5_fameOf G qm qd qs qn qk qt qr qx qdb qde qdf db de df dc dp dk) sz) (fun (u : Unit) => (w0_X5_fameOf G qm qd qs qn qk qt qr qx qdb qde qdf db de df dc dp dk)) u t) (va_A (w0_X5_fameOf G qm qd qs qn qk qt qr qx qdb qde qdf db de df dc dp dk) sz)) 1 6 (va_A (w0_X5_fameOf G qm qd qs qn qk qt qr qx qdb qde qdf db de df dc dp dk) sz) := by
  refine mx_i (cc := cX5_fameOf) (maxL := 2) (ret := some .int) (post := (fun (r : Int32) (u : Unit) => Q r)) (w1 := (fun (u : Unit) => (w0_X5_fameOf G qm qd qs qn qk qt qr qx qdb qde qdf db de df dc dp dk))) (px := (fun (E : String) (u : Unit) => X E)) (by decide) rfl (Nat.le_of_ble_eq_true rfl) ?_ sz
  intro p e s m below meth c A ls H locs hx hb hr hml hown hts hlocks hnt hK hG hP hD hS hA hl
  have hown : s.vm.findClass RX5 = some m.cls := hown
  have hl : lv_has ls 2 [(0, .ref qm), (1, .int a1)] := hl
  unfold wx_X5_fameOf at hw
  refine lv_aload_n hx hb dX5_fameOf_0 rfl (lv_at hl 0 rfl) ?_
  refine lv_iload_n hx hb dX5_fameOf_1 rfl (lv_at hl 1 rfl) ?_
  refine kxR_v (xr_V [] ⟨hx, hb, hml, hown, hts⟩ (cx_X5_requireRehearsal l hst G qm qd qs qn qk qt qr qx qdb qde qdf db de df dc dp dk a1 hw H.size) (cwV 1 hts gX5_fameOf_X5_requireRehearsal rfl rfl rfl (by decide +kernel) ⟨Nat.le_of_ble_eq_true rfl, Nat.le_of_ble_eq_true rfl⟩) hK hG hP hD hS hA [0, 1, 2, 3, 4] rfl rfl 5 0 rfl rfl rfl hl.1 rfl (Nat.le_of_ble_eq_true rfl) dX5_fameOf_2 ⟨Nat.le_of_ble_eq_true rfl, Nat.le_of_ble_eq_true rfl⟩) hP hD hS hA [0, 1, 2, 3, 4] rfl (fun E u ce q9 H locs hw hP hS h1 h2 h3 => kx_out () hnt hlocks h1 h2 h3 hK hS hP hD hw (Nat.le_of_ble_eq_true rfl) (Nat.le_of_ble_eq_true rfl)) (fun u H locs hw hP hS => ?_)
  try dsimp only at hw
  refine lv_aload_n hx hb dX5_fameOf_5 rfl (lv_at hl 0 rfl) ?_
  refine va_get (D := gD G) (ci := 5) (v := .ref qd) (C := RX5) (T := TX5) (N := 7) hx hb hts k_X5_fameOf_inX5 hown hK hP 0 rfl rfl 0 (by decide) (hts _ k_X5_fameOf_f10) (fun _ h9 => h9) rfl dX5_fameOf_6 ?_
  refine va_get (D := gD G) (ci := 1) (v := .ref qdf) (C := RX1) (T := TX1) (N := 6) hx hb hts k_X5_fameOf_inX1 hown hK hP 1 rfl rfl 2 (by decide) (hts _ k_X5_fameOf_f78) (fun _ h9 => h9) rfl dX5_fameOf_9 ?_
  refine lv_iload_n hx hb dX5_fameOf_12 rfl (lv_at hl 1 rfl) ?_
  obtain ⟨h1, hw⟩ := hw
  refine va_iald hx hb hK hP 4 0 rfl rfl h1 dX5_fameOf_13 ?_
  exact fin_x (Nat.le_of_ble_eq_true rfl) (Nat.le_of_ble_eq_true rfl) (fin_i () hx hb hr hlocks hK hS hP hD hw dX5_fameOf_14)

abbrev w0_X5_famePerQuarter (G : mG) (qm : Nat) (qd : Nat) (qs : Nat) (qn : Nat) (qk : Nat) (qt : Nat) (qr : Nat) (qx : Nat) (qdb : Nat) (qde : Nat) (qdf : Nat) (db : Nat → Int32) (de : Nat → Int32) (df : Nat → Int32) (dc : Int32) (dp : Int32) (dk : Int32) : va_W := [(qm, .inr (5, [.ref qd, .ref qs, .ref qn, .ref qk, .ref qt, .ref qr, .ref qx])), (qd, .inr (1, [.ref qdb, .ref qde, .ref qdf, .int dc, .int dp, .int dk])), (qdb, .inl (gI G, (14, .inl db))), (qde, .inl (gI G, (14, .inl de))), (qdf, .inl (gI G, (14, .inl df)))]
set_option maxRecDepth 100000 in
theorem k_X5_famePerQuarter_inX5 : ∀ w ∈ u_ws RX5 TX5 7, w ∈ wsX5_famePerQuarter := by decide +kernel
set_option maxRecDepth 100000 in
theorem k_X5_famePerQuarter_f10 : Cond.fieldLink RX5 10 "RehearsalRoom" "day" "LRehearsalRoom$Day;" ∈ wsX5_famePerQuarter := by decide +kernel
set_option maxRecDepth 100000 in
theorem k_X5_famePerQuarter_inX1 : ∀ w ∈ u_ws RX1 TX1 6, w ∈ wsX5_famePerQuarter := by decide +kernel
set_option maxRecDepth 100000 in
theorem k_X5_famePerQuarter_f78 : Cond.fieldLink RX5 78 "RehearsalRoom$Day" "fames" "[I" ∈ wsX5_famePerQuarter := by decide +kernel
set_option maxHeartbeats 8000000 in
set_option maxRecDepth 100000 in
theorem cx_X5_famePerQuarter (l : Launch) (hst : l.stackTraces = false) (G : mG) (qm : Nat) (qd : Nat) (qs : Nat) (qn : Nat) (qk : Nat) (qt : Nat) (qr : Nat) (qx : Nat) (qdb : Nat) (qde : Nat) (qdf : Nat) (db : Nat → Int32) (de : Nat → Int32) (df : Nat → Int32) (dc : Int32) (dp : Int32) (dk : Int32) (a1 : Int32) {Q : UInt32 → Prop} {X : String → Prop} (hw : wx_X5_famePerQuarter db de df dc a1 Q X) (sz : Nat) :
    vx_Met l yX5_famePerQuarter wsX5_famePerQuarter ({ frames := 7, cells := 1, slots := 6, locals := 111 } : Room) (va_Pc [.ref qm, .int a1] (mPre G (w0_X5_famePerQuarter G qm qd qs qn qk qt qr qx qdb qde qdf db de df dc dp dk) sz)) (va_Qf (fun (r : UInt32) (u : Unit) => Q r) (mBk G (va_A (w0_X5_famePerQuarter G qm qd qs qn qk qt qr qx qdb qde qdf db de df dc dp dk) sz) (fun (u : Unit) => (w0_X5_famePerQuarter G qm qd qs qn qk qt qr qx qdb qde qdf db de df dc dp dk))) (va_A (w0_X5_famePerQuarter G qm qd qs qn qk qt qr qx qdb qde qdf db de df dc dp dk) sz)) (vx_X (fun _ => True) (fun E u t => (fun (E : String) (u : Unit) => X E) E u ∧ mBk G (va_A (w0_X5_famePerQuarter G qm qd qs qn qk qt qr qx qdb qde qdf db de df dc dp dk) sz) (fun (u : Unit) => (w0_X5_famePerQuarter G qm qd qs qn qk qt qr qx qdb qde qdf db de df dc dp dk)) u t) (va_A (w0_X5_famePerQuarter G qm qd qs qn qk qt qr qx qdb qde qdf db de df dc dp dk) sz)) 1 6 (va_A (w0_X5_famePerQuarter G qm qd qs qn qk qt qr qx qdb qde qdf db de df dc dp dk) sz) := by
  refine mx_f (cc := cX5_famePerQuarter) (maxL := 2) (ret := some .float) (post := (fun (r : UInt32) (u : Unit) => Q r)) (w1 := (fun (u : Unit) => (w0_X5_famePerQuarter G qm qd qs qn qk qt qr qx qdb qde qdf db de df dc dp dk))) (px := (fun (E : String) (u : Unit) => X E)) (by decide) rfl (Nat.le_of_ble_eq_true rfl) ?_ sz
  intro p e s m below meth c A ls H locs hx hb hr hml hown hts hlocks hnt hK hG hP hD hS hA hl
  have hown : s.vm.findClass RX5 = some m.cls := hown
  have hl : lv_has ls 2 [(0, .ref qm), (1, .int a1)] := hl
  unfold wx_X5_famePerQuarter at hw
  refine lv_aload_n hx hb dX5_famePerQuarter_0 rfl (lv_at hl 0 rfl) ?_
  refine lv_iload_n hx hb dX5_famePerQuarter_1 rfl (lv_at hl 1 rfl) ?_
  refine kxR_v (xr_V [] ⟨hx, hb, hml, hown, hts⟩ (cx_X5_requireRehearsal l hst G qm qd qs qn qk qt qr qx qdb qde qdf db de df dc dp dk a1 hw H.size) (cwV 1 hts gX5_famePerQuarter_X5_requireRehearsal rfl rfl rfl (by decide +kernel) ⟨Nat.le_of_ble_eq_true rfl, Nat.le_of_ble_eq_true rfl⟩) hK hG hP hD hS hA [0, 1, 2, 3, 4] rfl rfl 5 0 rfl rfl rfl hl.1 rfl (Nat.le_of_ble_eq_true rfl) dX5_famePerQuarter_2 ⟨Nat.le_of_ble_eq_true rfl, Nat.le_of_ble_eq_true rfl⟩) hP hD hS hA [0, 1, 2, 3, 4] rfl (fun E u ce q9 H locs hw hP hS h1 h2 h3 => kx_out () hnt hlocks h1 h2 h3 hK hS hP hD hw (Nat.le_of_ble_eq_true rfl) (Nat.le_of_ble_eq_true rfl)) (fun u H locs hw hP hS => ?_)
  try dsimp only at hw
  refine lv_aload_n hx hb dX5_famePerQuarter_5 rfl (lv_at hl 0 rfl) ?_
  refine va_get (D := gD G) (ci := 5) (v := .ref qd) (C := RX5) (T := TX5) (N := 7) hx hb hts k_X5_famePerQuarter_inX5 hown hK hP 0 rfl rfl 0 (by decide) (hts _ k_X5_famePerQuarter_f10) (fun _ h9 => h9) rfl dX5_famePerQuarter_6 ?_
  refine va_get (D := gD G) (ci := 1) (v := .ref qdf) (C := RX1) (T := TX1) (N := 6) hx hb hts k_X5_famePerQuarter_inX1 hown hK hP 1 rfl rfl 2 (by decide) (hts _ k_X5_famePerQuarter_f78) (fun _ h9 => h9) rfl dX5_famePerQuarter_9 ?_
  refine lv_iload_n hx hb dX5_famePerQuarter_12 rfl (lv_at hl 1 rfl) ?_
  obtain ⟨h1, hw⟩ := hw
  refine va_iald hx hb hK hP 4 0 rfl rfl h1 dX5_famePerQuarter_13 ?_
  refine lv_i2f hx hb dX5_famePerQuarter_14 ?_
  refine lv_aload_n hx hb dX5_famePerQuarter_15 rfl (lv_at hl 0 rfl) ?_
  refine va_get (D := gD G) (ci := 5) (v := .ref qd) (C := RX5) (T := TX5) (N := 7) hx hb hts k_X5_famePerQuarter_inX5 hown hK hP 0 rfl rfl 0 (by decide) (hts _ k_X5_famePerQuarter_f10) (fun _ h9 => h9) rfl dX5_famePerQuarter_16 ?_
  refine lv_iload_n hx hb dX5_famePerQuarter_19 rfl (lv_at hl 1 rfl) ?_
  refine kcR_i (kr_V [.float (FP.i2f (df a1.toNatClampNeg))] ⟨hx, hb, hml, hown, hts⟩ (cn_X1_quartersOf l G qd qdb qde qdf db de df dc dp dk a1 hw H.size) (cwV 1 hts gX5_famePerQuarter_X1_quartersOf rfl rfl rfl (by decide +kernel) ⟨Nat.le_of_ble_eq_true rfl, Nat.le_of_ble_eq_true rfl⟩) hK hG hP hD hS hA [1, 2, 3, 4] rfl rfl 1 1 rfl rfl rfl hl.1 rfl (Nat.le_of_ble_eq_true rfl) dX5_famePerQuarter_20 ⟨Nat.le_of_ble_eq_true rfl, Nat.le_of_ble_eq_true rfl⟩) hP hD hS hA [1, 2, 3, 4] rfl (fun r2 u H locs hw hP hS => ?_)
  try dsimp only at hw
  refine lv_i2f hx hb dX5_famePerQuarter_23 ?_
  obtain ⟨h3, hw⟩ := hw
  refine lv_fdiv hx hb dX5_famePerQuarter_24 h3 ?_
  exact fin_x (Nat.le_of_ble_eq_true rfl) (Nat.le_of_ble_eq_true rfl) (fin_f () hx hb hr hlocks hK hS hP hD hw dX5_famePerQuarter_25)

abbrev w0_X5_isBooked (G : mG) (qm : Nat) (qd : Nat) (qs : Nat) (qn : Nat) (qk : Nat) (qt : Nat) (qr : Nat) (qx : Nat) (qdb : Nat) (qde : Nat) (qdf : Nat) (db : Nat → Int32) (de : Nat → Int32) (df : Nat → Int32) (dc : Int32) (dp : Int32) (dk : Int32) : va_W := [(qm, .inr (5, [.ref qd, .ref qs, .ref qn, .ref qk, .ref qt, .ref qr, .ref qx])), (qd, .inr (1, [.ref qdb, .ref qde, .ref qdf, .int dc, .int dp, .int dk])), (qdb, .inl (gI G, (14, .inl db))), (qde, .inl (gI G, (14, .inl de))), (qdf, .inl (gI G, (14, .inl df)))]
set_option maxRecDepth 100000 in
theorem k_X5_isBooked_inX5 : ∀ w ∈ u_ws RX5 TX5 7, w ∈ wsX5_isBooked := by decide +kernel
set_option maxRecDepth 100000 in
theorem k_X5_isBooked_f10 : Cond.fieldLink RX5 10 "RehearsalRoom" "day" "LRehearsalRoom$Day;" ∈ wsX5_isBooked := by decide +kernel
set_option maxHeartbeats 8000000 in
set_option maxRecDepth 100000 in
theorem cx_X5_isBooked (l : Launch) (hst : l.stackTraces = false) (G : mG) (qm : Nat) (qd : Nat) (qs : Nat) (qn : Nat) (qk : Nat) (qt : Nat) (qr : Nat) (qx : Nat) (qdb : Nat) (qde : Nat) (qdf : Nat) (db : Nat → Int32) (de : Nat → Int32) (df : Nat → Int32) (dc : Int32) (dp : Int32) (dk : Int32) (a1 : Int32) {Q : Int32 → Prop} {X : String → Prop} (hw : wx_X5_isBooked dc dk a1 Q X) (sz : Nat) :
    vx_Met l yX5_isBooked wsX5_isBooked ({ frames := 7, cells := 1, slots := 6, locals := 111 } : Room) (va_Pc [.ref qm, .int a1] (mPre G (w0_X5_isBooked G qm qd qs qn qk qt qr qx qdb qde qdf db de df dc dp dk) sz)) (va_Qi (fun (r : Int32) (u : Unit) => (r = 0 ∨ r = 1) ∧ Q r) (mBk G (va_A (w0_X5_isBooked G qm qd qs qn qk qt qr qx qdb qde qdf db de df dc dp dk) sz) (fun (u : Unit) => (w0_X5_isBooked G qm qd qs qn qk qt qr qx qdb qde qdf db de df dc dp dk))) (va_A (w0_X5_isBooked G qm qd qs qn qk qt qr qx qdb qde qdf db de df dc dp dk) sz)) (vx_X (fun _ => True) (fun E u t => (fun (E : String) (u : Unit) => X E) E u ∧ mBk G (va_A (w0_X5_isBooked G qm qd qs qn qk qt qr qx qdb qde qdf db de df dc dp dk) sz) (fun (u : Unit) => (w0_X5_isBooked G qm qd qs qn qk qt qr qx qdb qde qdf db de df dc dp dk)) u t) (va_A (w0_X5_isBooked G qm qd qs qn qk qt qr qx qdb qde qdf db de df dc dp dk) sz)) 1 6 (va_A (w0_X5_isBooked G qm qd qs qn qk qt qr qx qdb qde qdf db de df dc dp dk) sz) := by
  refine mx_i (cc := cX5_isBooked) (maxL := 2) (ret := some .boolean) (post := (fun (r : Int32) (u : Unit) => (r = 0 ∨ r = 1) ∧ Q r)) (w1 := (fun (u : Unit) => (w0_X5_isBooked G qm qd qs qn qk qt qr qx qdb qde qdf db de df dc dp dk))) (px := (fun (E : String) (u : Unit) => X E)) (by decide) rfl (Nat.le_of_ble_eq_true rfl) ?_ sz
  intro p e s m below meth c A ls H locs hx hb hr hml hown hts hlocks hnt hK hG hP hD hS hA hl
  have hown : s.vm.findClass RX5 = some m.cls := hown
  have hl : lv_has ls 2 [(0, .ref qm), (1, .int a1)] := hl
  unfold wx_X5_isBooked at hw
  refine lv_aload_n hx hb dX5_isBooked_0 rfl (lv_at hl 0 rfl) ?_
  refine lv_iload_n hx hb dX5_isBooked_1 rfl (lv_at hl 1 rfl) ?_
  refine kxR_v (xr_V [] ⟨hx, hb, hml, hown, hts⟩ (cx_X5_requireRehearsal l hst G qm qd qs qn qk qt qr qx qdb qde qdf db de df dc dp dk a1 hw H.size) (cwV 1 hts gX5_isBooked_X5_requireRehearsal rfl rfl rfl (by decide +kernel) ⟨Nat.le_of_ble_eq_true rfl, Nat.le_of_ble_eq_true rfl⟩) hK hG hP hD hS hA [0, 1, 2, 3, 4] rfl rfl 5 0 rfl rfl rfl hl.1 rfl (Nat.le_of_ble_eq_true rfl) dX5_isBooked_2 ⟨Nat.le_of_ble_eq_true rfl, Nat.le_of_ble_eq_true rfl⟩) hP hD hS hA [0, 1, 2, 3, 4] rfl (fun E u ce q9 H locs hw hP hS h1 h2 h3 => kx_out () hnt hlocks h1 h2 h3 hK hS hP hD hw (Nat.le_of_ble_eq_true rfl) (Nat.le_of_ble_eq_true rfl)) (fun u H locs hw hP hS => ?_)
  try dsimp only at hw
  refine lv_aload_n hx hb dX5_isBooked_5 rfl (lv_at hl 0 rfl) ?_
  refine va_get (D := gD G) (ci := 5) (v := .ref qd) (C := RX5) (T := TX5) (N := 7) hx hb hts k_X5_isBooked_inX5 hown hK hP 0 rfl rfl 0 (by decide) (hts _ k_X5_isBooked_f10) (fun _ h9 => h9) rfl dX5_isBooked_6 ?_
  refine lv_iload_n hx hb dX5_isBooked_9 rfl (lv_at hl 1 rfl) ?_
  refine kcR_i (kr_V [] ⟨hx, hb, hml, hown, hts⟩ (cn_X1_hasBooked l G qd qdb qde qdf db de df dc dp dk a1 hw H.size) (cwV 1 hts gX5_isBooked_X1_hasBooked rfl rfl rfl (by decide +kernel) ⟨Nat.le_of_ble_eq_true rfl, Nat.le_of_ble_eq_true rfl⟩) hK hG hP hD hS hA [1, 2, 3, 4] rfl rfl 1 1 rfl rfl rfl hl.1 rfl (Nat.le_of_ble_eq_true rfl) dX5_isBooked_10 ⟨Nat.le_of_ble_eq_true rfl, Nat.le_of_ble_eq_true rfl⟩) hP hD hS hA [1, 2, 3, 4] rfl (fun r1 u H locs hw hP hS => ?_)
  try dsimp only at hw
  obtain ⟨hz_r1, hw⟩ := hw
  exact fin_x (Nat.le_of_ble_eq_true rfl) (Nat.le_of_ble_eq_true rfl) (fin_z () hx hb hr (nz hz_r1) hlocks hK hS hP hD ⟨hz_r1, hw⟩ dX5_isBooked_13)

abbrev w0_X5_pause (G : mG) (qm : Nat) (qd : Nat) (qs : Nat) (qn : Nat) (qk : Nat) (qt : Nat) (qr : Nat) (qx : Nat) (qdb : Nat) (qde : Nat) (qdf : Nat) (db : Nat → Int32) (de : Nat → Int32) (df : Nat → Int32) (dc : Int32) (dp : Int32) (dk : Int32) : va_W := [(qm, .inr (5, [.ref qd, .ref qs, .ref qn, .ref qk, .ref qt, .ref qr, .ref qx])), (qd, .inr (1, [.ref qdb, .ref qde, .ref qdf, .int dc, .int dp, .int dk])), (qdb, .inl (gI G, (14, .inl db))), (qde, .inl (gI G, (14, .inl de))), (qdf, .inl (gI G, (14, .inl df)))]
set_option maxRecDepth 100000 in
theorem k_X5_pause_inX5 : ∀ w ∈ u_ws RX5 TX5 7, w ∈ wsX5_pause := by decide +kernel
set_option maxRecDepth 100000 in
theorem k_X5_pause_f10 : Cond.fieldLink RX5 10 "RehearsalRoom" "day" "LRehearsalRoom$Day;" ∈ wsX5_pause := by decide +kernel
set_option maxRecDepth 100000 in
theorem k_X5_pause_inX1 : ∀ w ∈ u_ws RX1 TX1 6, w ∈ wsX5_pause := by decide +kernel
set_option maxRecDepth 100000 in
theorem k_X5_pause_f120 : Cond.fieldLink RX5 120 "RehearsalRoom$Day" "pause" "I" ∈ wsX5_pause := by decide +kernel
set_option maxHeartbeats 8000000 in
set_option maxRecDepth 100000 in
theorem cn_X5_pause (l : Launch) (G : mG) (qm : Nat) (qd : Nat) (qs : Nat) (qn : Nat) (qk : Nat) (qt : Nat) (qr : Nat) (qx : Nat) (qdb : Nat) (qde : Nat) (qdf : Nat) (db : Nat → Int32) (de : Nat → Int32) (df : Nat → Int32) (dc : Int32) (dp : Int32) (dk : Int32) {Q : Int32 → Prop} (hw : wn_X5_pause dp Q) (sz : Nat) :
    Met l yX5_pause wsX5_pause ({ frames := 0, cells := 0, slots := 0, locals := 0 } : Room) (va_Pc [.ref qm] (mPre G (w0_X5_pause G qm qd qs qn qk qt qr qx qdb qde qdf db de df dc dp dk) sz)) (va_Qi (fun (r : Int32) (u : Unit) => Q r) (mBk G (va_A (w0_X5_pause G qm qd qs qn qk qt qr qx qdb qde qdf db de df dc dp dk) sz) (fun (u : Unit) => (w0_X5_pause G qm qd qs qn qk qt qr qx qdb qde qdf db de df dc dp dk))) (va_A (w0_X5_pause G qm qd qs qn qk qt qr qx qdb qde qdf db de df dc dp dk) sz)) 0 0 (va_A (w0_X5_pause G qm qd qs qn qk qt qr qx qdb qde qdf db de df dc dp dk) sz) := by
  refine ms_i (cc := cX5_pause) (maxL := 1) (ret := some .int) (post := (fun (r : Int32) (u : Unit) => Q r)) (w1 := (fun (u : Unit) => (w0_X5_pause G qm qd qs qn qk qt qr qx qdb qde qdf db de df dc dp dk))) (by decide) rfl (Nat.le_of_ble_eq_true rfl) ?_ sz
  intro p e s m below meth c A ls H locs hx hb hr hml hown hts hlocks hK hG hP hD hS hA hl
  have hown : s.vm.findClass RX5 = some m.cls := hown
  have hl : lv_has ls 1 [(0, .ref qm)] := hl
  unfold wn_X5_pause at hw
  refine lv_aload_n hx hb dX5_pause_0 rfl (lv_at hl 0 rfl) ?_
  refine va_get (D := gD G) (ci := 5) (v := .ref qd) (C := RX5) (T := TX5) (N := 7) hx hb hts k_X5_pause_inX5 hown hK hP 0 rfl rfl 0 (by decide) (hts _ k_X5_pause_f10) (fun _ h9 => h9) rfl dX5_pause_1 ?_
  refine va_get (D := gD G) (ci := 1) (v := .int dp) (C := RX1) (T := TX1) (N := 6) hx hb hts k_X5_pause_inX1 hown hK hP 1 rfl rfl 4 (by decide) (hts _ k_X5_pause_f120) (fun _ h9 => h9) rfl dX5_pause_4 ?_
  exact fin_i () hx hb hr hlocks hK hS hP hD hw dX5_pause_7

abbrev w0_X5_booked (G : mG) (qm : Nat) (qd : Nat) (qs : Nat) (qn : Nat) (qk : Nat) (qt : Nat) (qr : Nat) (qx : Nat) (qdb : Nat) (qde : Nat) (qdf : Nat) (db : Nat → Int32) (de : Nat → Int32) (df : Nat → Int32) (dc : Int32) (dp : Int32) (dk : Int32) : va_W := [(qm, .inr (5, [.ref qd, .ref qs, .ref qn, .ref qk, .ref qt, .ref qr, .ref qx])), (qd, .inr (1, [.ref qdb, .ref qde, .ref qdf, .int dc, .int dp, .int dk])), (qdb, .inl (gI G, (14, .inl db))), (qde, .inl (gI G, (14, .inl de))), (qdf, .inl (gI G, (14, .inl df)))]
set_option maxRecDepth 100000 in
theorem k_X5_booked_inX5 : ∀ w ∈ u_ws RX5 TX5 7, w ∈ wsX5_booked := by decide +kernel
set_option maxRecDepth 100000 in
theorem k_X5_booked_f10 : Cond.fieldLink RX5 10 "RehearsalRoom" "day" "LRehearsalRoom$Day;" ∈ wsX5_booked := by decide +kernel
set_option maxRecDepth 100000 in
theorem k_X5_booked_inX1 : ∀ w ∈ u_ws RX1 TX1 6, w ∈ wsX5_booked := by decide +kernel
set_option maxRecDepth 100000 in
theorem k_X5_booked_f128 : Cond.fieldLink RX5 128 "RehearsalRoom$Day" "bookings" "I" ∈ wsX5_booked := by decide +kernel
set_option maxHeartbeats 8000000 in
set_option maxRecDepth 100000 in
theorem cn_X5_booked (l : Launch) (G : mG) (qm : Nat) (qd : Nat) (qs : Nat) (qn : Nat) (qk : Nat) (qt : Nat) (qr : Nat) (qx : Nat) (qdb : Nat) (qde : Nat) (qdf : Nat) (db : Nat → Int32) (de : Nat → Int32) (df : Nat → Int32) (dc : Int32) (dp : Int32) (dk : Int32) {Q : Int32 → Prop} (hw : wn_X5_booked dk Q) (sz : Nat) :
    Met l yX5_booked wsX5_booked ({ frames := 1, cells := 0, slots := 0, locals := 20 } : Room) (va_Pc [.ref qm] (mPre G (w0_X5_booked G qm qd qs qn qk qt qr qx qdb qde qdf db de df dc dp dk) sz)) (va_Qi (fun (r : Int32) (u : Unit) => Q r) (mBk G (va_A (w0_X5_booked G qm qd qs qn qk qt qr qx qdb qde qdf db de df dc dp dk) sz) (fun (u : Unit) => (w0_X5_booked G qm qd qs qn qk qt qr qx qdb qde qdf db de df dc dp dk))) (va_A (w0_X5_booked G qm qd qs qn qk qt qr qx qdb qde qdf db de df dc dp dk) sz)) 0 0 (va_A (w0_X5_booked G qm qd qs qn qk qt qr qx qdb qde qdf db de df dc dp dk) sz) := by
  refine ms_i (cc := cX5_booked) (maxL := 1) (ret := some .int) (post := (fun (r : Int32) (u : Unit) => Q r)) (w1 := (fun (u : Unit) => (w0_X5_booked G qm qd qs qn qk qt qr qx qdb qde qdf db de df dc dp dk))) (by decide) rfl (Nat.le_of_ble_eq_true rfl) ?_ sz
  intro p e s m below meth c A ls H locs hx hb hr hml hown hts hlocks hK hG hP hD hS hA hl
  have hown : s.vm.findClass RX5 = some m.cls := hown
  have hl : lv_has ls 1 [(0, .ref qm)] := hl
  unfold wn_X5_booked at hw
  refine lv_aload_n hx hb dX5_booked_0 rfl (lv_at hl 0 rfl) ?_
  refine va_get (D := gD G) (ci := 5) (v := .ref qd) (C := RX5) (T := TX5) (N := 7) hx hb hts k_X5_booked_inX5 hown hK hP 0 rfl rfl 0 (by decide) (hts _ k_X5_booked_f10) (fun _ h9 => h9) rfl dX5_booked_1 ?_
  refine va_get (D := gD G) (ci := 1) (v := .int dk) (C := RX1) (T := TX1) (N := 6) hx hb hts k_X5_booked_inX1 hown hK hP 1 rfl rfl 5 (by decide) (hts _ k_X5_booked_f128) (fun _ h9 => h9) rfl dX5_booked_4 ?_
  refine kcR_i (kr_S [] ⟨hx, hb, hml, hown, hts⟩ (cn_J6_bitCount_0f7a4 l G dk hw H.size) (va_cwS 1 hts gX5_booked_J6_bitCount_0f7a4 rfl rfl rfl (by decide +kernel) ⟨Nat.le_of_ble_eq_true rfl, Nat.le_of_ble_eq_true rfl⟩) hK hG hP hD hS hA [] rfl rfl rfl hl.1 rfl (Nat.le_of_ble_eq_true rfl) dX5_booked_7 ⟨Nat.le_of_ble_eq_true rfl, Nat.le_of_ble_eq_true rfl⟩) hP hD hS hA [] rfl (fun r1 u H locs hw hP hS => ?_)
  try dsimp only at hw
  exact fin_i () hx hb hr hlocks hK hS hP hD hw dX5_booked_10

abbrev w0_X5_bookedFame (G : mG) (qm : Nat) (qd : Nat) (qs : Nat) (qn : Nat) (qk : Nat) (qt : Nat) (qr : Nat) (qx : Nat) (qdb : Nat) (qde : Nat) (qdf : Nat) (db : Nat → Int32) (de : Nat → Int32) (df : Nat → Int32) (dc : Int32) (dp : Int32) (dk : Int32) : va_W := [(qm, .inr (5, [.ref qd, .ref qs, .ref qn, .ref qk, .ref qt, .ref qr, .ref qx])), (qd, .inr (1, [.ref qdb, .ref qde, .ref qdf, .int dc, .int dp, .int dk])), (qdb, .inl (gI G, (14, .inl db))), (qde, .inl (gI G, (14, .inl de))), (qdf, .inl (gI G, (14, .inl df)))]
set_option maxRecDepth 100000 in
theorem k_X5_bookedFame_inX5 : ∀ w ∈ u_ws RX5 TX5 7, w ∈ wsX5_bookedFame := by decide +kernel
set_option maxRecDepth 100000 in
theorem k_X5_bookedFame_f10 : Cond.fieldLink RX5 10 "RehearsalRoom" "day" "LRehearsalRoom$Day;" ∈ wsX5_bookedFame := by decide +kernel
set_option maxRecDepth 100000 in
theorem k_X5_bookedFame_inX1 : ∀ w ∈ u_ws RX1 TX1 6, w ∈ wsX5_bookedFame := by decide +kernel
set_option maxRecDepth 100000 in
theorem k_X5_bookedFame_f128 : Cond.fieldLink RX5 128 "RehearsalRoom$Day" "bookings" "I" ∈ wsX5_bookedFame := by decide +kernel
set_option maxHeartbeats 8000000 in
set_option maxRecDepth 100000 in
theorem cn_X5_bookedFame (l : Launch) (G : mG) (qm : Nat) (qd : Nat) (qs : Nat) (qn : Nat) (qk : Nat) (qt : Nat) (qr : Nat) (qx : Nat) (qdb : Nat) (qde : Nat) (qdf : Nat) (db : Nat → Int32) (de : Nat → Int32) (df : Nat → Int32) (dc : Int32) (dp : Int32) (dk : Int32) {Q : Int32 → Prop} (hw : wn_X5_bookedFame df dc dk Q) (sz : Nat) :
    Met l yX5_bookedFame wsX5_bookedFame ({ frames := 3, cells := 0, slots := 0, locals := 64 } : Room) (va_Pc [.ref qm] (mPre G (w0_X5_bookedFame G qm qd qs qn qk qt qr qx qdb qde qdf db de df dc dp dk) sz)) (va_Qi (fun (r : Int32) (u : Unit) => Q r) (mBk G (va_A (w0_X5_bookedFame G qm qd qs qn qk qt qr qx qdb qde qdf db de df dc dp dk) sz) (fun (u : Unit) => (w0_X5_bookedFame G qm qd qs qn qk qt qr qx qdb qde qdf db de df dc dp dk))) (va_A (w0_X5_bookedFame G qm qd qs qn qk qt qr qx qdb qde qdf db de df dc dp dk) sz)) 0 0 (va_A (w0_X5_bookedFame G qm qd qs qn qk qt qr qx qdb qde qdf db de df dc dp dk) sz) := by
  refine ms_i (cc := cX5_bookedFame) (maxL := 1) (ret := some .int) (post := (fun (r : Int32) (u : Unit) => Q r)) (w1 := (fun (u : Unit) => (w0_X5_bookedFame G qm qd qs qn qk qt qr qx qdb qde qdf db de df dc dp dk))) (by decide) rfl (Nat.le_of_ble_eq_true rfl) ?_ sz
  intro p e s m below meth c A ls H locs hx hb hr hml hown hts hlocks hK hG hP hD hS hA hl
  have hown : s.vm.findClass RX5 = some m.cls := hown
  have hl : lv_has ls 1 [(0, .ref qm)] := hl
  unfold wn_X5_bookedFame at hw
  refine lv_aload_n hx hb dX5_bookedFame_0 rfl (lv_at hl 0 rfl) ?_
  refine va_get (D := gD G) (ci := 5) (v := .ref qd) (C := RX5) (T := TX5) (N := 7) hx hb hts k_X5_bookedFame_inX5 hown hK hP 0 rfl rfl 0 (by decide) (hts _ k_X5_bookedFame_f10) (fun _ h9 => h9) rfl dX5_bookedFame_1 ?_
  refine lv_aload_n hx hb dX5_bookedFame_4 rfl (lv_at hl 0 rfl) ?_
  refine va_get (D := gD G) (ci := 5) (v := .ref qd) (C := RX5) (T := TX5) (N := 7) hx hb hts k_X5_bookedFame_inX5 hown hK hP 0 rfl rfl 0 (by decide) (hts _ k_X5_bookedFame_f10) (fun _ h9 => h9) rfl dX5_bookedFame_5 ?_
  refine va_get (D := gD G) (ci := 1) (v := .int dk) (C := RX1) (T := TX1) (N := 6) hx hb hts k_X5_bookedFame_inX1 hown hK hP 1 rfl rfl 5 (by decide) (hts _ k_X5_bookedFame_f128) (fun _ h9 => h9) rfl dX5_bookedFame_8 ?_
  refine kcR_i (kr_V [] ⟨hx, hb, hml, hown, hts⟩ (cn_X1_fameOfSet l G qd qdb qde qdf db de df dc dp dk dk hw H.size) (cwV 1 hts gX5_bookedFame_X1_fameOfSet rfl rfl rfl (by decide +kernel) ⟨Nat.le_of_ble_eq_true rfl, Nat.le_of_ble_eq_true rfl⟩) hK hG hP hD hS hA [1, 2, 3, 4] rfl rfl 1 1 rfl rfl rfl hl.1 rfl (Nat.le_of_ble_eq_true rfl) dX5_bookedFame_11 ⟨Nat.le_of_ble_eq_true rfl, Nat.le_of_ble_eq_true rfl⟩) hP hD hS hA [1, 2, 3, 4] rfl (fun r1 u H locs hw hP hS => ?_)
  try dsimp only at hw
  exact fin_i () hx hb hr hlocks hK hS hP hD hw dX5_bookedFame_14

abbrev w0_X5_areInConflict (G : mG) (qm : Nat) (qd : Nat) (qs : Nat) (qn : Nat) (qk : Nat) (qt : Nat) (qr : Nat) (qx : Nat) (qdb : Nat) (qde : Nat) (qdf : Nat) (db : Nat → Int32) (de : Nat → Int32) (df : Nat → Int32) (dc : Int32) (dp : Int32) (dk : Int32) : va_W := [(qm, .inr (5, [.ref qd, .ref qs, .ref qn, .ref qk, .ref qt, .ref qr, .ref qx])), (qd, .inr (1, [.ref qdb, .ref qde, .ref qdf, .int dc, .int dp, .int dk])), (qdb, .inl (gI G, (14, .inl db))), (qde, .inl (gI G, (14, .inl de))), (qdf, .inl (gI G, (14, .inl df)))]
set_option maxRecDepth 100000 in
theorem k_X5_areInConflict_inX5 : ∀ w ∈ u_ws RX5 TX5 7, w ∈ wsX5_areInConflict := by decide +kernel
set_option maxRecDepth 100000 in
theorem k_X5_areInConflict_f10 : Cond.fieldLink RX5 10 "RehearsalRoom" "day" "LRehearsalRoom$Day;" ∈ wsX5_areInConflict := by decide +kernel
set_option maxHeartbeats 8000000 in
set_option maxRecDepth 100000 in
theorem cx_X5_areInConflict (l : Launch) (hst : l.stackTraces = false) (G : mG) (qm : Nat) (qd : Nat) (qs : Nat) (qn : Nat) (qk : Nat) (qt : Nat) (qr : Nat) (qx : Nat) (qdb : Nat) (qde : Nat) (qdf : Nat) (db : Nat → Int32) (de : Nat → Int32) (df : Nat → Int32) (dc : Int32) (dp : Int32) (dk : Int32) (a1 : Int32) (a2 : Int32) {Q : Int32 → Prop} {X : String → Prop} (hw : wx_X5_areInConflict db de dc dp a1 a2 Q X) (sz : Nat) :
    vx_Met l yX5_areInConflict wsX5_areInConflict ({ frames := 7, cells := 2, slots := 12, locals := 111 } : Room) (va_Pc [.ref qm, .int a1, .int a2] (mPre G (w0_X5_areInConflict G qm qd qs qn qk qt qr qx qdb qde qdf db de df dc dp dk) sz)) (va_Qi (fun (r : Int32) (u : Unit) => (r = 0 ∨ r = 1) ∧ Q r) (mBk G (va_A (w0_X5_areInConflict G qm qd qs qn qk qt qr qx qdb qde qdf db de df dc dp dk) sz) (fun (u : Unit) => (w0_X5_areInConflict G qm qd qs qn qk qt qr qx qdb qde qdf db de df dc dp dk))) (va_A (w0_X5_areInConflict G qm qd qs qn qk qt qr qx qdb qde qdf db de df dc dp dk) sz)) (vx_X (fun _ => True) (fun E u t => (fun (E : String) (u : Unit) => X E) E u ∧ mBk G (va_A (w0_X5_areInConflict G qm qd qs qn qk qt qr qx qdb qde qdf db de df dc dp dk) sz) (fun (u : Unit) => (w0_X5_areInConflict G qm qd qs qn qk qt qr qx qdb qde qdf db de df dc dp dk)) u t) (va_A (w0_X5_areInConflict G qm qd qs qn qk qt qr qx qdb qde qdf db de df dc dp dk) sz)) 2 12 (va_A (w0_X5_areInConflict G qm qd qs qn qk qt qr qx qdb qde qdf db de df dc dp dk) sz) := by
  refine mx_i (cc := cX5_areInConflict) (maxL := 3) (ret := some .boolean) (post := (fun (r : Int32) (u : Unit) => (r = 0 ∨ r = 1) ∧ Q r)) (w1 := (fun (u : Unit) => (w0_X5_areInConflict G qm qd qs qn qk qt qr qx qdb qde qdf db de df dc dp dk))) (px := (fun (E : String) (u : Unit) => X E)) (by decide) rfl (Nat.le_of_ble_eq_true rfl) ?_ sz
  intro p e s m below meth c A ls H locs hx hb hr hml hown hts hlocks hnt hK hG hP hD hS hA hl
  have hown : s.vm.findClass RX5 = some m.cls := hown
  have hl : lv_has ls 3 [(0, .ref qm), (1, .int a1), (2, .int a2)] := hl
  unfold wx_X5_areInConflict at hw
  refine lv_aload_n hx hb dX5_areInConflict_0 rfl (lv_at hl 0 rfl) ?_
  refine lv_iload_n hx hb dX5_areInConflict_1 rfl (lv_at hl 1 rfl) ?_
  refine kxR_v (xr_V [] ⟨hx, hb, hml, hown, hts⟩ (cx_X5_requireRehearsal l hst G qm qd qs qn qk qt qr qx qdb qde qdf db de df dc dp dk a1 hw H.size) (cwV 1 hts gX5_areInConflict_X5_requireRehearsal rfl rfl rfl (by decide +kernel) ⟨Nat.le_of_ble_eq_true rfl, Nat.le_of_ble_eq_true rfl⟩) hK hG hP hD hS hA [0, 1, 2, 3, 4] rfl rfl 5 0 rfl rfl rfl hl.1 rfl (Nat.le_of_ble_eq_true rfl) dX5_areInConflict_2 ⟨Nat.le_of_ble_eq_true rfl, Nat.le_of_ble_eq_true rfl⟩) hP hD hS hA [0, 1, 2, 3, 4] rfl (fun E u ce q9 H locs hw hP hS h1 h2 h3 => kx_out () hnt hlocks h1 h2 h3 hK hS hP hD hw (Nat.le_of_ble_eq_true rfl) (Nat.le_of_ble_eq_true rfl)) (fun u H locs hw hP hS => ?_)
  try dsimp only at hw
  refine lv_aload_n hx hb dX5_areInConflict_5 rfl (lv_at hl 0 rfl) ?_
  refine lv_iload_n hx hb dX5_areInConflict_6 rfl (lv_at hl 2 rfl) ?_
  refine kxR_v (xr_V [] ⟨hx, hb, hml, hown, hts⟩ (cx_X5_requireRehearsal l hst G qm qd qs qn qk qt qr qx qdb qde qdf db de df dc dp dk a2 hw H.size) (cwV 1 hts gX5_areInConflict_X5_requireRehearsal rfl rfl rfl (by decide +kernel) ⟨Nat.le_of_ble_eq_true rfl, Nat.le_of_ble_eq_true rfl⟩) hK hG hP hD hS hA [0, 1, 2, 3, 4] rfl rfl 5 0 rfl rfl rfl hl.1 rfl (Nat.le_of_ble_eq_true rfl) dX5_areInConflict_7 ⟨Nat.le_of_ble_eq_true rfl, Nat.le_of_ble_eq_true rfl⟩) hP hD hS hA [0, 1, 2, 3, 4] rfl (fun E u ce q9 H locs hw hP hS h1 h2 h3 => kx_out () hnt hlocks h1 h2 h3 hK hS hP hD hw (Nat.le_of_ble_eq_true rfl) (Nat.le_of_ble_eq_true rfl)) (fun u H locs hw hP hS => ?_)
  try dsimp only at hw
  refine lv_aload_n hx hb dX5_areInConflict_10 rfl (lv_at hl 0 rfl) ?_
  refine va_get (D := gD G) (ci := 5) (v := .ref qd) (C := RX5) (T := TX5) (N := 7) hx hb hts k_X5_areInConflict_inX5 hown hK hP 0 rfl rfl 0 (by decide) (hts _ k_X5_areInConflict_f10) (fun _ h9 => h9) rfl dX5_areInConflict_11 ?_
  refine lv_iload_n hx hb dX5_areInConflict_14 rfl (lv_at hl 1 rfl) ?_
  refine lv_iload_n hx hb dX5_areInConflict_15 rfl (lv_at hl 2 rfl) ?_
  refine kcR_i (kr_V [] ⟨hx, hb, hml, hown, hts⟩ (cn_X1_clash l G qd qdb qde qdf db de df dc dp dk a1 a2 hw H.size) (cwV 2 hts gX5_areInConflict_X1_clash rfl rfl rfl (by decide +kernel) ⟨Nat.le_of_ble_eq_true rfl, Nat.le_of_ble_eq_true rfl⟩) hK hG hP hD hS hA [1, 2, 3, 4] rfl rfl 1 1 rfl rfl rfl hl.1 rfl (Nat.le_of_ble_eq_true rfl) dX5_areInConflict_16 ⟨Nat.le_of_ble_eq_true rfl, Nat.le_of_ble_eq_true rfl⟩) hP hD hS hA [1, 2, 3, 4] rfl (fun r1 u H locs hw hP hS => ?_)
  try dsimp only at hw
  obtain ⟨hz_r1, hw⟩ := hw
  exact fin_x (Nat.le_of_ble_eq_true rfl) (Nat.le_of_ble_eq_true rfl) (fin_z () hx hb hr (nz hz_r1) hlocks hK hS hP hD ⟨hz_r1, hw⟩ dX5_areInConflict_19)

abbrev w0_X5_conflictsOf (G : mG) (qm : Nat) (qd : Nat) (qs : Nat) (qn : Nat) (qk : Nat) (qt : Nat) (qr : Nat) (qx : Nat) (qdb : Nat) (qde : Nat) (qdf : Nat) (db : Nat → Int32) (de : Nat → Int32) (df : Nat → Int32) (dc : Int32) (dp : Int32) (dk : Int32) : va_W := [(qm, .inr (5, [.ref qd, .ref qs, .ref qn, .ref qk, .ref qt, .ref qr, .ref qx])), (qd, .inr (1, [.ref qdb, .ref qde, .ref qdf, .int dc, .int dp, .int dk])), (qdb, .inl (gI G, (14, .inl db))), (qde, .inl (gI G, (14, .inl de))), (qdf, .inl (gI G, (14, .inl df)))]
set_option maxRecDepth 100000 in
theorem k_X5_conflictsOf_inX5 : ∀ w ∈ u_ws RX5 TX5 7, w ∈ wsX5_conflictsOf := by decide +kernel
set_option maxRecDepth 100000 in
theorem k_X5_conflictsOf_f10 : Cond.fieldLink RX5 10 "RehearsalRoom" "day" "LRehearsalRoom$Day;" ∈ wsX5_conflictsOf := by decide +kernel
set_option maxHeartbeats 8000000 in
set_option maxRecDepth 100000 in
theorem cx_X5_conflictsOf (l : Launch) (hst : l.stackTraces = false) (G : mG) (qm : Nat) (qd : Nat) (qs : Nat) (qn : Nat) (qk : Nat) (qt : Nat) (qr : Nat) (qx : Nat) (qdb : Nat) (qde : Nat) (qdf : Nat) (db : Nat → Int32) (de : Nat → Int32) (df : Nat → Int32) (dc : Int32) (dp : Int32) (dk : Int32) (a1 : Int32) {Q : Int32 → Prop} {X : String → Prop} (hw : wx_X5_conflictsOf db de dc dp a1 Q X) (sz : Nat) :
    vx_Met l yX5_conflictsOf wsX5_conflictsOf ({ frames := 7, cells := 1, slots := 6, locals := 111 } : Room) (va_Pc [.ref qm, .int a1] (mPre G (w0_X5_conflictsOf G qm qd qs qn qk qt qr qx qdb qde qdf db de df dc dp dk) sz)) (va_Qi (fun (r : Int32) (u : Unit) => Q r) (mBk G (va_A (w0_X5_conflictsOf G qm qd qs qn qk qt qr qx qdb qde qdf db de df dc dp dk) sz) (fun (u : Unit) => (w0_X5_conflictsOf G qm qd qs qn qk qt qr qx qdb qde qdf db de df dc dp dk))) (va_A (w0_X5_conflictsOf G qm qd qs qn qk qt qr qx qdb qde qdf db de df dc dp dk) sz)) (vx_X (fun _ => True) (fun E u t => (fun (E : String) (u : Unit) => X E) E u ∧ mBk G (va_A (w0_X5_conflictsOf G qm qd qs qn qk qt qr qx qdb qde qdf db de df dc dp dk) sz) (fun (u : Unit) => (w0_X5_conflictsOf G qm qd qs qn qk qt qr qx qdb qde qdf db de df dc dp dk)) u t) (va_A (w0_X5_conflictsOf G qm qd qs qn qk qt qr qx qdb qde qdf db de df dc dp dk) sz)) 1 6 (va_A (w0_X5_conflictsOf G qm qd qs qn qk qt qr qx qdb qde qdf db de df dc dp dk) sz) := by
  refine mx_i (cc := cX5_conflictsOf) (maxL := 2) (ret := some .int) (post := (fun (r : Int32) (u : Unit) => Q r)) (w1 := (fun (u : Unit) => (w0_X5_conflictsOf G qm qd qs qn qk qt qr qx qdb qde qdf db de df dc dp dk))) (px := (fun (E : String) (u : Unit) => X E)) (by decide) rfl (Nat.le_of_ble_eq_true rfl) ?_ sz
  intro p e s m below meth c A ls H locs hx hb hr hml hown hts hlocks hnt hK hG hP hD hS hA hl
  have hown : s.vm.findClass RX5 = some m.cls := hown
  have hl : lv_has ls 2 [(0, .ref qm), (1, .int a1)] := hl
  unfold wx_X5_conflictsOf at hw
  refine lv_aload_n hx hb dX5_conflictsOf_0 rfl (lv_at hl 0 rfl) ?_
  refine lv_iload_n hx hb dX5_conflictsOf_1 rfl (lv_at hl 1 rfl) ?_
  refine kxR_v (xr_V [] ⟨hx, hb, hml, hown, hts⟩ (cx_X5_requireRehearsal l hst G qm qd qs qn qk qt qr qx qdb qde qdf db de df dc dp dk a1 hw H.size) (cwV 1 hts gX5_conflictsOf_X5_requireRehearsal rfl rfl rfl (by decide +kernel) ⟨Nat.le_of_ble_eq_true rfl, Nat.le_of_ble_eq_true rfl⟩) hK hG hP hD hS hA [0, 1, 2, 3, 4] rfl rfl 5 0 rfl rfl rfl hl.1 rfl (Nat.le_of_ble_eq_true rfl) dX5_conflictsOf_2 ⟨Nat.le_of_ble_eq_true rfl, Nat.le_of_ble_eq_true rfl⟩) hP hD hS hA [0, 1, 2, 3, 4] rfl (fun E u ce q9 H locs hw hP hS h1 h2 h3 => kx_out () hnt hlocks h1 h2 h3 hK hS hP hD hw (Nat.le_of_ble_eq_true rfl) (Nat.le_of_ble_eq_true rfl)) (fun u H locs hw hP hS => ?_)
  try dsimp only at hw
  refine lv_aload_n hx hb dX5_conflictsOf_5 rfl (lv_at hl 0 rfl) ?_
  refine va_get (D := gD G) (ci := 5) (v := .ref qd) (C := RX5) (T := TX5) (N := 7) hx hb hts k_X5_conflictsOf_inX5 hown hK hP 0 rfl rfl 0 (by decide) (hts _ k_X5_conflictsOf_f10) (fun _ h9 => h9) rfl dX5_conflictsOf_6 ?_
  refine lv_iload_n hx hb dX5_conflictsOf_9 rfl (lv_at hl 1 rfl) ?_
  refine kcR_i (kr_V [] ⟨hx, hb, hml, hown, hts⟩ (cn_X1_conflictsWith l G qd qdb qde qdf db de df dc dp dk a1 hw H.size) (cwV 1 hts gX5_conflictsOf_X1_conflictsWith rfl rfl rfl (by decide +kernel) ⟨Nat.le_of_ble_eq_true rfl, Nat.le_of_ble_eq_true rfl⟩) hK hG hP hD hS hA [1, 2, 3, 4] rfl rfl 1 1 rfl rfl rfl hl.1 rfl (Nat.le_of_ble_eq_true rfl) dX5_conflictsOf_10 ⟨Nat.le_of_ble_eq_true rfl, Nat.le_of_ble_eq_true rfl⟩) hP hD hS hA [1, 2, 3, 4] rfl (fun r1 u H locs hw hP hS => ?_)
  try dsimp only at hw
  refine kcR_i (kr_S [] ⟨hx, hb, hml, hown, hts⟩ (cn_J6_bitCount_0f7a4 l G r1 hw H.size) (va_cwS 1 hts gX5_conflictsOf_J6_bitCount_0f7a4 rfl rfl rfl (by decide +kernel) ⟨Nat.le_of_ble_eq_true rfl, Nat.le_of_ble_eq_true rfl⟩) hK hG hP hD hS hA [] rfl rfl rfl hl.1 rfl (Nat.le_of_ble_eq_true rfl) dX5_conflictsOf_13 ⟨Nat.le_of_ble_eq_true rfl, Nat.le_of_ble_eq_true rfl⟩) hP hD hS hA [] rfl (fun r2 u H locs hw hP hS => ?_)
  try dsimp only at hw
  exact fin_x (Nat.le_of_ble_eq_true rfl) (Nat.le_of_ble_eq_true rfl) (fin_i () hx hb hr hlocks hK hS hP hD hw dX5_conflictsOf_16)

abbrev w0_X5_conflictsByPairs (G : mG) (qm : Nat) (qd : Nat) (qs : Nat) (qn : Nat) (qk : Nat) (qt : Nat) (qr : Nat) (qx : Nat) (qdb : Nat) (qde : Nat) (qdf : Nat) (db : Nat → Int32) (de : Nat → Int32) (df : Nat → Int32) (dc : Int32) (dp : Int32) (dk : Int32) : va_W := [(qm, .inr (5, [.ref qd, .ref qs, .ref qn, .ref qk, .ref qt, .ref qr, .ref qx])), (qd, .inr (1, [.ref qdb, .ref qde, .ref qdf, .int dc, .int dp, .int dk])), (qdb, .inl (gI G, (14, .inl db))), (qde, .inl (gI G, (14, .inl de))), (qdf, .inl (gI G, (14, .inl df)))]
set_option maxRecDepth 100000 in
theorem k_X5_conflictsByPairs_inX5 : ∀ w ∈ u_ws RX5 TX5 7, w ∈ wsX5_conflictsByPairs := by decide +kernel
set_option maxRecDepth 100000 in
theorem k_X5_conflictsByPairs_f10 : Cond.fieldLink RX5 10 "RehearsalRoom" "day" "LRehearsalRoom$Day;" ∈ wsX5_conflictsByPairs := by decide +kernel
set_option maxRecDepth 100000 in
theorem k_X5_conflictsByPairs_inX1 : ∀ w ∈ u_ws RX1 TX1 6, w ∈ wsX5_conflictsByPairs := by decide +kernel
set_option maxRecDepth 100000 in
theorem k_X5_conflictsByPairs_f71 : Cond.fieldLink RX5 71 "RehearsalRoom$Day" "count" "I" ∈ wsX5_conflictsByPairs := by decide +kernel
set_option maxHeartbeats 8000000 in
set_option maxRecDepth 100000 in
theorem cn_X5_conflictsByPairs (l : Launch) (G : mG) (qm : Nat) (qd : Nat) (qs : Nat) (qn : Nat) (qk : Nat) (qt : Nat) (qr : Nat) (qx : Nat) (qdb : Nat) (qde : Nat) (qdf : Nat) (db : Nat → Int32) (de : Nat → Int32) (df : Nat → Int32) (dc : Int32) (dp : Int32) (dk : Int32) {Q : Int32 → Prop} (hw : wn_X5_conflictsByPairs db de dc dp Q) (sz : Nat) :
    Met l yX5_conflictsByPairs wsX5_conflictsByPairs ({ frames := 2, cells := 0, slots := 0, locals := 46 } : Room) (va_Pc [.ref qm] (mPre G (w0_X5_conflictsByPairs G qm qd qs qn qk qt qr qx qdb qde qdf db de df dc dp dk) sz)) (va_Qi (fun (r : Int32) (u : Unit) => Q r) (mBk G (va_A (w0_X5_conflictsByPairs G qm qd qs qn qk qt qr qx qdb qde qdf db de df dc dp dk) sz) (fun (u : Unit) => (w0_X5_conflictsByPairs G qm qd qs qn qk qt qr qx qdb qde qdf db de df dc dp dk))) (va_A (w0_X5_conflictsByPairs G qm qd qs qn qk qt qr qx qdb qde qdf db de df dc dp dk) sz)) 0 0 (va_A (w0_X5_conflictsByPairs G qm qd qs qn qk qt qr qx qdb qde qdf db de df dc dp dk) sz) := by
  refine ms_i (cc := cX5_conflictsByPairs) (maxL := 4) (ret := some .int) (post := (fun (r : Int32) (u : Unit) => Q r)) (w1 := (fun (u : Unit) => (w0_X5_conflictsByPairs G qm qd qs qn qk qt qr qx qdb qde qdf db de df dc dp dk))) (by decide) rfl (Nat.le_of_ble_eq_true rfl) ?_ sz
  intro p e s m below meth c A ls H locs hx hb hr hml hown hts hlocks hK hG hP hD hS hA hl
  have hown : s.vm.findClass RX5 = some m.cls := hown
  have hl : lv_has ls 4 [(0, .ref qm)] := hl
  have J19 : ∀ (k4 : Int32 → Int32 → Prop) (hk4 : ∀ (x1 : Int32) (x2 : Int32) (H : Heap) (locs : List Loc) (ls : Array Slot), va_P (gD G) vwCl (w0_X5_conflictsByPairs G qm qd qs qn qk qt qr qx qdb qde qdf db de df dc dp dk) H → va_D A (w0_X5_conflictsByPairs G qm qd qs qn qk qt qr qx qdb qde qdf db de df dc dp dk) → va_S A s.heap H locs → lv_has ls 4 [(0, .ref qm), (1, .int x1), (2, .int x2)] → k4 x1 x2 → W p l e ({ frames := 2, cells := 0, slots := 0, locals := 46 } : Room) s m ([.ref qm] : List Value).toArray below meth c H locs 0 0 (MQ below (va_Qi (fun (r : Int32) (u : Unit) => Q r) (mBk G A (fun (u : Unit) => (w0_X5_conflictsByPairs G qm qd qs qn qk qt qr qx qdb qde qdf db de df dc dp dk))) A) ([.ref qm] : List Value).toArray s 0 0 A) (F0 m 4 ls [])) (n : Nat) (x1 : Int32) (x2 : Int32) (x3 : Int32) (H : Heap) (locs : List Loc) (ls : Array Slot), va_P (gD G) vwCl (w0_X5_conflictsByPairs G qm qd qs qn qk qt qr qx qdb qde qdf db de df dc dp dk) H → va_D A (w0_X5_conflictsByPairs G qm qd qs qn qk qt qr qx qdb qde qdf db de df dc dp dk) → va_S A s.heap H locs → lv_has ls 4 [(0, .ref qm), (1, .int x1), (2, .int x2), (3, .int x3)] → wl_n_X5_conflictsByPairs_19 db de dc dp Q k4 n x1 x2 x3 → W p l e ({ frames := 2, cells := 0, slots := 0, locals := 46 } : Room) s m ([.ref qm] : List Value).toArray below meth c H locs 0 0 (MQ below (va_Qi (fun (r : Int32) (u : Unit) => Q r) (mBk G A (fun (u : Unit) => (w0_X5_conflictsByPairs G qm qd qs qn qk qt qr qx qdb qde qdf db de df dc dp dk))) A) ([.ref qm] : List Value).toArray s 0 0 A) (F0 m 19 ls []) := by
    intro k4 hk4 n
    induction n with
    | zero => intro x1 x2 x3 H locs ls hP hD hS hl hw; exact False.elim hw
    | succ n ih =>
      intro x1 x2 x3 H locs ls hP hD hS hl hw
      rw [wl_n_X5_conflictsByPairs_19] at hw
      refine lv_iload_n hx hb dX5_conflictsByPairs_19 rfl (lv_at hl 3 rfl) ?_
      refine lv_aload_n hx hb dX5_conflictsByPairs_20 rfl (lv_at hl 0 rfl) ?_
      refine va_get (D := gD G) (ci := 5) (v := .ref qd) (C := RX5) (T := TX5) (N := 7) hx hb hts k_X5_conflictsByPairs_inX5 hown hK hP 0 rfl rfl 0 (by decide) (hts _ k_X5_conflictsByPairs_f10) (fun _ h9 => h9) rfl dX5_conflictsByPairs_21 ?_
      refine va_get (D := gD G) (ci := 1) (v := .int dc) (C := RX1) (T := TX1) (N := 6) hx hb hts k_X5_conflictsByPairs_inX1 hown hK hP 1 rfl rfl 3 (by decide) (hts _ k_X5_conflictsByPairs_f71) (fun _ h9 => h9) rfl dX5_conflictsByPairs_24 ?_
      refine lv_icmp_ge (tgt := 51) hx hb dX5_conflictsByPairs_27 (by decide) (fun cd2 => ?_) (fun cd2 => ?_)
      · have hw := hw.1 cd2
        refine lv_iinc (v := (x2 + 1)) (lv' := [(2, .int (x2 + 1)), (0, .ref qm), (1, .int x1), (3, .int x3)]) hx hb dX5_conflictsByPairs_51 hl (k := 2) rfl rfl (by decide) rfl (fun ls hl => ?_)
        refine lv_goto (tgt := 4) hx hb dX5_conflictsByPairs_54 (by decide) ?_
        exact hk4 x1 (x2 + 1) _ _ _ hP hD hS (lv_sub hl [1, 2, 0] rfl) hw
      · have hw := hw.2 cd2
        refine lv_aload_n hx hb dX5_conflictsByPairs_30 rfl (lv_at hl 0 rfl) ?_
        refine va_get (D := gD G) (ci := 5) (v := .ref qd) (C := RX5) (T := TX5) (N := 7) hx hb hts k_X5_conflictsByPairs_inX5 hown hK hP 0 rfl rfl 0 (by decide) (hts _ k_X5_conflictsByPairs_f10) (fun _ h9 => h9) rfl dX5_conflictsByPairs_31 ?_
        refine lv_iload_n hx hb dX5_conflictsByPairs_34 rfl (lv_at hl 2 rfl) ?_
        refine lv_iload_n hx hb dX5_conflictsByPairs_35 rfl (lv_at hl 3 rfl) ?_
        refine kcR_i (kr_V [] ⟨hx, hb, hml, hown, hts⟩ (cn_X1_clash l G qd qdb qde qdf db de df dc dp dk x2 x3 hw H.size) (cwV 2 hts gX5_conflictsByPairs_X1_clash rfl rfl rfl (by decide +kernel) ⟨Nat.le_of_ble_eq_true rfl, Nat.le_of_ble_eq_true rfl⟩) hK hG hP hD hS hA [1, 2, 3, 4] rfl rfl 1 1 rfl rfl rfl hl.1 rfl (Nat.le_of_ble_eq_true rfl) dX5_conflictsByPairs_36 ⟨Nat.le_of_ble_eq_true rfl, Nat.le_of_ble_eq_true rfl⟩) hP hD hS hA [1, 2, 3, 4] rfl (fun r3 u H locs hw hP hS => ?_)
        try dsimp only at hw
        obtain ⟨hz_r3, hw⟩ := hw
        refine lv_if_eq (tgt := 45) hx hb dX5_conflictsByPairs_39 (by decide) (fun cd4 => ?_) (fun cd4 => ?_)
        · have hw := hw.1 cd4
          refine lv_iinc (v := (x3 + 1)) (lv' := [(3, .int (x3 + 1)), (0, .ref qm), (1, .int x1), (2, .int x2)]) hx hb dX5_conflictsByPairs_45 hl (k := 3) rfl rfl (by decide) rfl (fun ls hl => ?_)
          refine lv_goto (tgt := 19) hx hb dX5_conflictsByPairs_48 (by decide) ?_
          exact ih x1 x2 (x3 + 1) _ _ _ hP hD hS (lv_sub hl [1, 2, 3, 0] rfl) hw
        · have hw := hw.2 cd4
          refine lv_iinc (v := (x1 + 1)) (lv' := [(1, .int (x1 + 1)), (0, .ref qm), (2, .int x2), (3, .int x3)]) hx hb dX5_conflictsByPairs_42 hl (k := 1) rfl rfl (by decide) rfl (fun ls hl => ?_)
          refine lv_iinc (v := (x3 + 1)) (lv' := [(3, .int (x3 + 1)), (1, .int (x1 + 1)), (0, .ref qm), (2, .int x2)]) hx hb dX5_conflictsByPairs_45 hl (k := 3) rfl rfl (by decide) rfl (fun ls hl => ?_)
          refine lv_goto (tgt := 19) hx hb dX5_conflictsByPairs_48 (by decide) ?_
          exact ih (x1 + 1) x2 (x3 + 1) _ _ _ hP hD hS (lv_sub hl [2, 1, 3, 0] rfl) hw
  have J4 : ∀ (n : Nat) (x1 : Int32) (x2 : Int32) (H : Heap) (locs : List Loc) (ls : Array Slot), va_P (gD G) vwCl (w0_X5_conflictsByPairs G qm qd qs qn qk qt qr qx qdb qde qdf db de df dc dp dk) H → va_D A (w0_X5_conflictsByPairs G qm qd qs qn qk qt qr qx qdb qde qdf db de df dc dp dk) → va_S A s.heap H locs → lv_has ls 4 [(0, .ref qm), (1, .int x1), (2, .int x2)] → wl_n_X5_conflictsByPairs_4 db de dc dp Q n x1 x2 → W p l e ({ frames := 2, cells := 0, slots := 0, locals := 46 } : Room) s m ([.ref qm] : List Value).toArray below meth c H locs 0 0 (MQ below (va_Qi (fun (r : Int32) (u : Unit) => Q r) (mBk G A (fun (u : Unit) => (w0_X5_conflictsByPairs G qm qd qs qn qk qt qr qx qdb qde qdf db de df dc dp dk))) A) ([.ref qm] : List Value).toArray s 0 0 A) (F0 m 4 ls []) := by
    intro n
    induction n with
    | zero => intro x1 x2 H locs ls hP hD hS hl hw; exact False.elim hw
    | succ n ih =>
      intro x1 x2 H locs ls hP hD hS hl hw
      rw [wl_n_X5_conflictsByPairs_4] at hw
      refine lv_iload_n hx hb dX5_conflictsByPairs_4 rfl (lv_at hl 2 rfl) ?_
      refine lv_aload_n hx hb dX5_conflictsByPairs_5 rfl (lv_at hl 0 rfl) ?_
      refine va_get (D := gD G) (ci := 5) (v := .ref qd) (C := RX5) (T := TX5) (N := 7) hx hb hts k_X5_conflictsByPairs_inX5 hown hK hP 0 rfl rfl 0 (by decide) (hts _ k_X5_conflictsByPairs_f10) (fun _ h9 => h9) rfl dX5_conflictsByPairs_6 ?_
      refine va_get (D := gD G) (ci := 1) (v := .int dc) (C := RX1) (T := TX1) (N := 6) hx hb hts k_X5_conflictsByPairs_inX1 hown hK hP 1 rfl rfl 3 (by decide) (hts _ k_X5_conflictsByPairs_f71) (fun _ h9 => h9) rfl dX5_conflictsByPairs_9 ?_
      refine lv_icmp_ge (tgt := 57) hx hb dX5_conflictsByPairs_12 (by decide) (fun cd1 => ?_) (fun cd1 => ?_)
      · have hw := hw.1 cd1
        refine lv_iload_n hx hb dX5_conflictsByPairs_57 rfl (lv_at hl 1 rfl) ?_
        exact fin_i () hx hb hr hlocks hK hS hP hD hw dX5_conflictsByPairs_58
      · have hw := hw.2 cd1
        refine lv_iload_n hx hb dX5_conflictsByPairs_15 rfl (lv_at hl 2 rfl) ?_
        refine lv_iconst (v := 1) hx hb dX5_conflictsByPairs_16 (by decide) ?_
        refine lv_iadd hx hb dX5_conflictsByPairs_17 ?_
        refine lv_istore_n (lv' := [(3, .int (x2 + (1 : Int32))), (0, .ref qm), (1, .int x1), (2, .int x2)]) hx hb dX5_conflictsByPairs_18 rfl hl (by decide) rfl (fun ls hl => ?_)
        obtain ⟨n19, hw⟩ := hw
        exact J19 (fun (z0 : Int32) (z1 : Int32) => wl_n_X5_conflictsByPairs_4 db de dc dp Q n z0 z1) ih n19 x1 x2 (x2 + (1 : Int32)) _ _ _ hP hD hS (lv_sub hl [1, 2, 3, 0] rfl) hw
  unfold wn_X5_conflictsByPairs at hw
  refine lv_iconst (v := 0) hx hb dX5_conflictsByPairs_0 (by decide) ?_
  refine lv_istore_n (lv' := [(1, .int (0 : Int32)), (0, .ref qm)]) hx hb dX5_conflictsByPairs_1 rfl hl (by decide) rfl (fun ls hl => ?_)
  refine lv_iconst (v := 0) hx hb dX5_conflictsByPairs_2 (by decide) ?_
  refine lv_istore_n (lv' := [(2, .int (0 : Int32)), (1, .int (0 : Int32)), (0, .ref qm)]) hx hb dX5_conflictsByPairs_3 rfl hl (by decide) rfl (fun ls hl => ?_)
  obtain ⟨n4, hw⟩ := hw
  exact J4 n4 (0 : Int32) (0 : Int32) _ _ _ hP hD hS (lv_sub hl [2, 1, 0] rfl) hw

abbrev w0_X5_conflictsBySweep (G : mG) (qm : Nat) (qd : Nat) (qs : Nat) (qn : Nat) (qk : Nat) (qt : Nat) (qr : Nat) (qx : Nat) (qdb : Nat) (qde : Nat) (qdf : Nat) (qro : Nat) (qrg : Nat) (db : Nat → Int32) (de : Nat → Int32) (df : Nat → Int32) (dc : Int32) (dp : Int32) (dk : Int32) (ro : Nat → Int32) (rg : Nat → Int32) : va_W := [(qm, .inr (5, [.ref qd, .ref qs, .ref qn, .ref qk, .ref qt, .ref qr, .ref qx])), (qd, .inr (1, [.ref qdb, .ref qde, .ref qdf, .int dc, .int dp, .int dk])), (qdb, .inl (gI G, (14, .inl db))), (qde, .inl (gI G, (14, .inl de))), (qdf, .inl (gI G, (14, .inl df))), (qr, .inr (2, [.ref qro, .ref qrg])), (qro, .inl (gI G, (14, .inl ro))), (qrg, .inl (gI G, (14, .inl rg)))]
set_option maxRecDepth 100000 in
theorem k_X5_conflictsBySweep_inX5 : ∀ w ∈ u_ws RX5 TX5 7, w ∈ wsX5_conflictsBySweep := by decide +kernel
set_option maxRecDepth 100000 in
theorem k_X5_conflictsBySweep_f41 : Cond.fieldLink RX5 41 "RehearsalRoom" "rooms" "LRehearsalRoom$Rooms;" ∈ wsX5_conflictsBySweep := by decide +kernel
set_option maxRecDepth 100000 in
theorem k_X5_conflictsBySweep_f10 : Cond.fieldLink RX5 10 "RehearsalRoom" "day" "LRehearsalRoom$Day;" ∈ wsX5_conflictsBySweep := by decide +kernel
set_option maxHeartbeats 8000000 in
set_option maxRecDepth 100000 in
theorem cn_X5_conflictsBySweep (l : Launch) (G : mG) (qm : Nat) (qd : Nat) (qs : Nat) (qn : Nat) (qk : Nat) (qt : Nat) (qr : Nat) (qx : Nat) (qdb : Nat) (qde : Nat) (qdf : Nat) (qro : Nat) (qrg : Nat) (db : Nat → Int32) (de : Nat → Int32) (df : Nat → Int32) (dc : Int32) (dp : Int32) (dk : Int32) (ro : Nat → Int32) (rg : Nat → Int32) {Q : Int32 → Prop} (hw : wn_X5_conflictsBySweep db de dc dp Q) (sz : Nat) :
    Met l yX5_conflictsBySweep wsX5_conflictsBySweep ({ frames := 2, cells := 0, slots := 0, locals := 48 } : Room) (va_Pc [.ref qm] (mPre G (w0_X5_conflictsBySweep G qm qd qs qn qk qt qr qx qdb qde qdf qro qrg db de df dc dp dk ro rg) sz)) (va_Qi (fun (r : Int32) (u : Unit) => Q r) (mBk G (va_A (w0_X5_conflictsBySweep G qm qd qs qn qk qt qr qx qdb qde qdf qro qrg db de df dc dp dk ro rg) sz) (fun (u : Unit) => (w0_X5_conflictsBySweep G qm qd qs qn qk qt qr qx qdb qde qdf qro qrg db de df dc dp dk ro rg))) (va_A (w0_X5_conflictsBySweep G qm qd qs qn qk qt qr qx qdb qde qdf qro qrg db de df dc dp dk ro rg) sz)) 0 0 (va_A (w0_X5_conflictsBySweep G qm qd qs qn qk qt qr qx qdb qde qdf qro qrg db de df dc dp dk ro rg) sz) := by
  refine ms_i (cc := cX5_conflictsBySweep) (maxL := 1) (ret := some .int) (post := (fun (r : Int32) (u : Unit) => Q r)) (w1 := (fun (u : Unit) => (w0_X5_conflictsBySweep G qm qd qs qn qk qt qr qx qdb qde qdf qro qrg db de df dc dp dk ro rg))) (by decide) rfl (Nat.le_of_ble_eq_true rfl) ?_ sz
  intro p e s m below meth c A ls H locs hx hb hr hml hown hts hlocks hK hG hP hD hS hA hl
  have hown : s.vm.findClass RX5 = some m.cls := hown
  have hl : lv_has ls 1 [(0, .ref qm)] := hl
  unfold wn_X5_conflictsBySweep at hw
  refine lv_aload_n hx hb dX5_conflictsBySweep_0 rfl (lv_at hl 0 rfl) ?_
  refine va_get (D := gD G) (ci := 5) (v := .ref qr) (C := RX5) (T := TX5) (N := 7) hx hb hts k_X5_conflictsBySweep_inX5 hown hK hP 0 rfl rfl 5 (by decide) (hts _ k_X5_conflictsBySweep_f41) (fun _ h9 => h9) rfl dX5_conflictsBySweep_1 ?_
  refine lv_aload_n hx hb dX5_conflictsBySweep_4 rfl (lv_at hl 0 rfl) ?_
  refine va_get (D := gD G) (ci := 5) (v := .ref qd) (C := RX5) (T := TX5) (N := 7) hx hb hts k_X5_conflictsBySweep_inX5 hown hK hP 0 rfl rfl 0 (by decide) (hts _ k_X5_conflictsBySweep_f10) (fun _ h9 => h9) rfl dX5_conflictsBySweep_5 ?_
  refine kcR_i (kr_V [] ⟨hx, hb, hml, hown, hts⟩ (cn_X2_sweptPairs l G qr qro qrg qd qdb qde qdf ro rg db de df dc dp dk hw H.size) (cwV 1 hts gX5_conflictsBySweep_X2_sweptPairs rfl rfl rfl (by decide +kernel) ⟨Nat.le_of_ble_eq_true rfl, Nat.le_of_ble_eq_true rfl⟩) hK hG hP hD hS hA [5, 6, 7, 1, 2, 3, 4] rfl rfl 2 5 rfl rfl rfl hl.1 rfl (Nat.le_of_ble_eq_true rfl) dX5_conflictsBySweep_8 ⟨Nat.le_of_ble_eq_true rfl, Nat.le_of_ble_eq_true rfl⟩) hP hD hS hA [5, 6, 7, 1, 2, 3, 4] rfl (fun r1 u H locs hw hP hS => ?_)
  try dsimp only at hw
  exact fin_i () hx hb hr hlocks hK hS hP hD hw dX5_conflictsBySweep_11

abbrev w0_X5_roomsBySweep (G : mG) (qm : Nat) (qd : Nat) (qs : Nat) (qn : Nat) (qk : Nat) (qt : Nat) (qr : Nat) (qx : Nat) (qdb : Nat) (qde : Nat) (qdf : Nat) (qro : Nat) (qrg : Nat) (db : Nat → Int32) (de : Nat → Int32) (df : Nat → Int32) (dc : Int32) (dp : Int32) (dk : Int32) (ro : Nat → Int32) (rg : Nat → Int32) : va_W := [(qm, .inr (5, [.ref qd, .ref qs, .ref qn, .ref qk, .ref qt, .ref qr, .ref qx])), (qd, .inr (1, [.ref qdb, .ref qde, .ref qdf, .int dc, .int dp, .int dk])), (qdb, .inl (gI G, (14, .inl db))), (qde, .inl (gI G, (14, .inl de))), (qdf, .inl (gI G, (14, .inl df))), (qr, .inr (2, [.ref qro, .ref qrg])), (qro, .inl (gI G, (14, .inl ro))), (qrg, .inl (gI G, (14, .inl rg)))]
set_option maxRecDepth 100000 in
theorem k_X5_roomsBySweep_inX5 : ∀ w ∈ u_ws RX5 TX5 7, w ∈ wsX5_roomsBySweep := by decide +kernel
set_option maxRecDepth 100000 in
theorem k_X5_roomsBySweep_f41 : Cond.fieldLink RX5 41 "RehearsalRoom" "rooms" "LRehearsalRoom$Rooms;" ∈ wsX5_roomsBySweep := by decide +kernel
set_option maxRecDepth 100000 in
theorem k_X5_roomsBySweep_f10 : Cond.fieldLink RX5 10 "RehearsalRoom" "day" "LRehearsalRoom$Day;" ∈ wsX5_roomsBySweep := by decide +kernel
set_option maxHeartbeats 8000000 in
set_option maxRecDepth 100000 in
theorem cn_X5_roomsBySweep (l : Launch) (G : mG) (qm : Nat) (qd : Nat) (qs : Nat) (qn : Nat) (qk : Nat) (qt : Nat) (qr : Nat) (qx : Nat) (qdb : Nat) (qde : Nat) (qdf : Nat) (qro : Nat) (qrg : Nat) (db : Nat → Int32) (de : Nat → Int32) (df : Nat → Int32) (dc : Int32) (dp : Int32) (dk : Int32) (ro : Nat → Int32) (rg : Nat → Int32) {Q : Int32 → Prop} (hw : wn_X5_roomsBySweep db de dc dp Q) (sz : Nat) :
    Met l yX5_roomsBySweep wsX5_roomsBySweep ({ frames := 2, cells := 0, slots := 0, locals := 47 } : Room) (va_Pc [.ref qm] (mPre G (w0_X5_roomsBySweep G qm qd qs qn qk qt qr qx qdb qde qdf qro qrg db de df dc dp dk ro rg) sz)) (va_Qi (fun (r : Int32) (u : Unit) => Q r) (mBk G (va_A (w0_X5_roomsBySweep G qm qd qs qn qk qt qr qx qdb qde qdf qro qrg db de df dc dp dk ro rg) sz) (fun (u : Unit) => (w0_X5_roomsBySweep G qm qd qs qn qk qt qr qx qdb qde qdf qro qrg db de df dc dp dk ro rg))) (va_A (w0_X5_roomsBySweep G qm qd qs qn qk qt qr qx qdb qde qdf qro qrg db de df dc dp dk ro rg) sz)) 0 0 (va_A (w0_X5_roomsBySweep G qm qd qs qn qk qt qr qx qdb qde qdf qro qrg db de df dc dp dk ro rg) sz) := by
  refine ms_i (cc := cX5_roomsBySweep) (maxL := 1) (ret := some .int) (post := (fun (r : Int32) (u : Unit) => Q r)) (w1 := (fun (u : Unit) => (w0_X5_roomsBySweep G qm qd qs qn qk qt qr qx qdb qde qdf qro qrg db de df dc dp dk ro rg))) (by decide) rfl (Nat.le_of_ble_eq_true rfl) ?_ sz
  intro p e s m below meth c A ls H locs hx hb hr hml hown hts hlocks hK hG hP hD hS hA hl
  have hown : s.vm.findClass RX5 = some m.cls := hown
  have hl : lv_has ls 1 [(0, .ref qm)] := hl
  unfold wn_X5_roomsBySweep at hw
  refine lv_aload_n hx hb dX5_roomsBySweep_0 rfl (lv_at hl 0 rfl) ?_
  refine va_get (D := gD G) (ci := 5) (v := .ref qr) (C := RX5) (T := TX5) (N := 7) hx hb hts k_X5_roomsBySweep_inX5 hown hK hP 0 rfl rfl 5 (by decide) (hts _ k_X5_roomsBySweep_f41) (fun _ h9 => h9) rfl dX5_roomsBySweep_1 ?_
  refine lv_aload_n hx hb dX5_roomsBySweep_4 rfl (lv_at hl 0 rfl) ?_
  refine va_get (D := gD G) (ci := 5) (v := .ref qd) (C := RX5) (T := TX5) (N := 7) hx hb hts k_X5_roomsBySweep_inX5 hown hK hP 0 rfl rfl 0 (by decide) (hts _ k_X5_roomsBySweep_f10) (fun _ h9 => h9) rfl dX5_roomsBySweep_5 ?_
  refine kcR_i (kr_V [] ⟨hx, hb, hml, hown, hts⟩ (cn_X2_sweptRooms l G qr qro qrg qd qdb qde qdf ro rg db de df dc dp dk hw H.size) (cwV 1 hts gX5_roomsBySweep_X2_sweptRooms rfl rfl rfl (by decide +kernel) ⟨Nat.le_of_ble_eq_true rfl, Nat.le_of_ble_eq_true rfl⟩) hK hG hP hD hS hA [5, 6, 7, 1, 2, 3, 4] rfl rfl 2 5 rfl rfl rfl hl.1 rfl (Nat.le_of_ble_eq_true rfl) dX5_roomsBySweep_8 ⟨Nat.le_of_ble_eq_true rfl, Nat.le_of_ble_eq_true rfl⟩) hP hD hS hA [5, 6, 7, 1, 2, 3, 4] rfl (fun r1 u H locs hw hP hS => ?_)
  try dsimp only at hw
  exact fin_i () hx hb hr hlocks hK hS hP hD hw dX5_roomsBySweep_11

abbrev w0_X5_roomsByGiving (G : mG) (qm : Nat) (qd : Nat) (qs : Nat) (qn : Nat) (qk : Nat) (qt : Nat) (qr : Nat) (qx : Nat) (qdb : Nat) (qde : Nat) (qdf : Nat) (qro : Nat) (qrg : Nat) (db : Nat → Int32) (de : Nat → Int32) (df : Nat → Int32) (dc : Int32) (dp : Int32) (dk : Int32) (ro : Nat → Int32) (rg : Nat → Int32) : va_W := [(qm, .inr (5, [.ref qd, .ref qs, .ref qn, .ref qk, .ref qt, .ref qr, .ref qx])), (qd, .inr (1, [.ref qdb, .ref qde, .ref qdf, .int dc, .int dp, .int dk])), (qdb, .inl (gI G, (14, .inl db))), (qde, .inl (gI G, (14, .inl de))), (qdf, .inl (gI G, (14, .inl df))), (qr, .inr (2, [.ref qro, .ref qrg])), (qro, .inl (gI G, (14, .inl ro))), (qrg, .inl (gI G, (14, .inl rg)))]
set_option maxRecDepth 100000 in
theorem k_X5_roomsByGiving_inX5 : ∀ w ∈ u_ws RX5 TX5 7, w ∈ wsX5_roomsByGiving := by decide +kernel
set_option maxRecDepth 100000 in
theorem k_X5_roomsByGiving_f41 : Cond.fieldLink RX5 41 "RehearsalRoom" "rooms" "LRehearsalRoom$Rooms;" ∈ wsX5_roomsByGiving := by decide +kernel
set_option maxRecDepth 100000 in
theorem k_X5_roomsByGiving_f10 : Cond.fieldLink RX5 10 "RehearsalRoom" "day" "LRehearsalRoom$Day;" ∈ wsX5_roomsByGiving := by decide +kernel
set_option maxHeartbeats 8000000 in
set_option maxRecDepth 100000 in
theorem cn_X5_roomsByGiving (l : Launch) (G : mG) (qm : Nat) (qd : Nat) (qs : Nat) (qn : Nat) (qk : Nat) (qt : Nat) (qr : Nat) (qx : Nat) (qdb : Nat) (qde : Nat) (qdf : Nat) (qro : Nat) (qrg : Nat) (db : Nat → Int32) (de : Nat → Int32) (df : Nat → Int32) (dc : Int32) (dp : Int32) (dk : Int32) (ro : Nat → Int32) (rg : Nat → Int32) {Q : Int32 → (Nat → Int32) → (Nat → Int32) → Prop} (hw : wn_X5_roomsByGiving db de dc dp ro rg Q) (sz : Nat) :
    Met l yX5_roomsByGiving wsX5_roomsByGiving ({ frames := 5, cells := 0, slots := 0, locals := 115 } : Room) (va_Pc [.ref qm] (mPre G (w0_X5_roomsByGiving G qm qd qs qn qk qt qr qx qdb qde qdf qro qrg db de df dc dp dk ro rg) sz)) (va_Qi (fun (r : Int32) (u : (Nat → Int32) × (Nat → Int32)) => Q r u.1 u.2) (mBk G (va_A (w0_X5_roomsByGiving G qm qd qs qn qk qt qr qx qdb qde qdf qro qrg db de df dc dp dk ro rg) sz) (fun (u : (Nat → Int32) × (Nat → Int32)) => (w0_X5_roomsByGiving G qm qd qs qn qk qt qr qx qdb qde qdf qro qrg db de df dc dp dk u.1 u.2))) (va_A (w0_X5_roomsByGiving G qm qd qs qn qk qt qr qx qdb qde qdf qro qrg db de df dc dp dk ro rg) sz)) 0 0 (va_A (w0_X5_roomsByGiving G qm qd qs qn qk qt qr qx qdb qde qdf qro qrg db de df dc dp dk ro rg) sz) := by
  refine ms_i (cc := cX5_roomsByGiving) (maxL := 1) (ret := some .int) (post := (fun (r : Int32) (u : (Nat → Int32) × (Nat → Int32)) => Q r u.1 u.2)) (w1 := (fun (u : (Nat → Int32) × (Nat → Int32)) => (w0_X5_roomsByGiving G qm qd qs qn qk qt qr qx qdb qde qdf qro qrg db de df dc dp dk u.1 u.2))) (by decide) rfl (Nat.le_of_ble_eq_true rfl) ?_ sz
  intro p e s m below meth c A ls H locs hx hb hr hml hown hts hlocks hK hG hP hD hS hA hl
  have hown : s.vm.findClass RX5 = some m.cls := hown
  have hl : lv_has ls 1 [(0, .ref qm)] := hl
  unfold wn_X5_roomsByGiving at hw
  refine lv_aload_n hx hb dX5_roomsByGiving_0 rfl (lv_at hl 0 rfl) ?_
  refine va_get (D := gD G) (ci := 5) (v := .ref qr) (C := RX5) (T := TX5) (N := 7) hx hb hts k_X5_roomsByGiving_inX5 hown hK hP 0 rfl rfl 5 (by decide) (hts _ k_X5_roomsByGiving_f41) (fun _ h9 => h9) rfl dX5_roomsByGiving_1 ?_
  refine lv_aload_n hx hb dX5_roomsByGiving_4 rfl (lv_at hl 0 rfl) ?_
  refine va_get (D := gD G) (ci := 5) (v := .ref qd) (C := RX5) (T := TX5) (N := 7) hx hb hts k_X5_roomsByGiving_inX5 hown hK hP 0 rfl rfl 0 (by decide) (hts _ k_X5_roomsByGiving_f10) (fun _ h9 => h9) rfl dX5_roomsByGiving_5 ?_
  refine kc_i (kr_V [] ⟨hx, hb, hml, hown, hts⟩ (cn_X2_givenRooms l G qr qro qrg qd qdb qde qdf ro rg db de df dc dp dk hw H.size) (cwV 1 hts gX5_roomsByGiving_X2_givenRooms rfl rfl rfl (by decide +kernel) ⟨Nat.le_of_ble_eq_true rfl, Nat.le_of_ble_eq_true rfl⟩) hK hG hP hD hS hA [5, 6, 7, 1, 2, 3, 4] rfl rfl 2 5 rfl rfl rfl hl.1 rfl (Nat.le_of_ble_eq_true rfl) dX5_roomsByGiving_8 ⟨Nat.le_of_ble_eq_true rfl, Nat.le_of_ble_eq_true rfl⟩) hP hD hS hA [5, 6, 7, 1, 2, 3, 4] [0] rfl rfl rfl (by decide) (fun r1 u H locs hw hP hD hS => ?_)
  obtain ⟨ro_2, rg_3⟩ := u
  try dsimp only at hw
  have hP := hP.sub (ws' := (w0_X5_roomsByGiving G qm qd qs qn qk qt qr qx qdb qde qdf qro qrg db de df dc dp dk ro_2 rg_3)) [0, 4, 5, 6, 7, 1, 2, 3] rfl
  have hD := hD.sub (ws' := (w0_X5_roomsByGiving G qm qd qs qn qk qt qr qx qdb qde qdf qro qrg db de df dc dp dk ro_2 rg_3)) [0, 4, 5, 6, 7, 1, 2, 3] rfl rfl
  exact fin_i (ro_2, rg_3) hx hb hr hlocks hK hS hP hD hw dX5_roomsByGiving_11

abbrev w0_X5_roomOf (G : mG) (qm : Nat) (qd : Nat) (qs : Nat) (qn : Nat) (qk : Nat) (qt : Nat) (qr : Nat) (qx : Nat) (qdb : Nat) (qde : Nat) (qdf : Nat) (qro : Nat) (qrg : Nat) (db : Nat → Int32) (de : Nat → Int32) (df : Nat → Int32) (dc : Int32) (dp : Int32) (dk : Int32) (ro : Nat → Int32) (rg : Nat → Int32) : va_W := [(qm, .inr (5, [.ref qd, .ref qs, .ref qn, .ref qk, .ref qt, .ref qr, .ref qx])), (qd, .inr (1, [.ref qdb, .ref qde, .ref qdf, .int dc, .int dp, .int dk])), (qdb, .inl (gI G, (14, .inl db))), (qde, .inl (gI G, (14, .inl de))), (qdf, .inl (gI G, (14, .inl df))), (qr, .inr (2, [.ref qro, .ref qrg])), (qro, .inl (gI G, (14, .inl ro))), (qrg, .inl (gI G, (14, .inl rg)))]
set_option maxRecDepth 100000 in
theorem k_X5_roomOf_inX5 : ∀ w ∈ u_ws RX5 TX5 7, w ∈ wsX5_roomOf := by decide +kernel
set_option maxRecDepth 100000 in
theorem k_X5_roomOf_f41 : Cond.fieldLink RX5 41 "RehearsalRoom" "rooms" "LRehearsalRoom$Rooms;" ∈ wsX5_roomOf := by decide +kernel
set_option maxRecDepth 100000 in
theorem k_X5_roomOf_f10 : Cond.fieldLink RX5 10 "RehearsalRoom" "day" "LRehearsalRoom$Day;" ∈ wsX5_roomOf := by decide +kernel
set_option maxHeartbeats 8000000 in
set_option maxRecDepth 100000 in
theorem cx_X5_roomOf (l : Launch) (hst : l.stackTraces = false) (G : mG) (qm : Nat) (qd : Nat) (qs : Nat) (qn : Nat) (qk : Nat) (qt : Nat) (qr : Nat) (qx : Nat) (qdb : Nat) (qde : Nat) (qdf : Nat) (qro : Nat) (qrg : Nat) (db : Nat → Int32) (de : Nat → Int32) (df : Nat → Int32) (dc : Int32) (dp : Int32) (dk : Int32) (ro : Nat → Int32) (rg : Nat → Int32) (a1 : Int32) {Q : Int32 → (Nat → Int32) → (Nat → Int32) → Prop} {X : String → (Nat → Int32) → (Nat → Int32) → Prop} (hw : wx_X5_roomOf db de dc dp ro rg a1 Q X) (sz : Nat) :
    vx_Met l yX5_roomOf wsX5_roomOf ({ frames := 7, cells := 1, slots := 6, locals := 114 } : Room) (va_Pc [.ref qm, .int a1] (mPre G (w0_X5_roomOf G qm qd qs qn qk qt qr qx qdb qde qdf qro qrg db de df dc dp dk ro rg) sz)) (va_Qi (fun (r : Int32) (u : (Nat → Int32) × (Nat → Int32)) => Q r u.1 u.2) (mBk G (va_A (w0_X5_roomOf G qm qd qs qn qk qt qr qx qdb qde qdf qro qrg db de df dc dp dk ro rg) sz) (fun (u : (Nat → Int32) × (Nat → Int32)) => (w0_X5_roomOf G qm qd qs qn qk qt qr qx qdb qde qdf qro qrg db de df dc dp dk u.1 u.2))) (va_A (w0_X5_roomOf G qm qd qs qn qk qt qr qx qdb qde qdf qro qrg db de df dc dp dk ro rg) sz)) (vx_X (fun _ => True) (fun E u t => (fun (E : String) (u : (Nat → Int32) × (Nat → Int32)) => X E u.1 u.2) E u ∧ mBk G (va_A (w0_X5_roomOf G qm qd qs qn qk qt qr qx qdb qde qdf qro qrg db de df dc dp dk ro rg) sz) (fun (u : (Nat → Int32) × (Nat → Int32)) => (w0_X5_roomOf G qm qd qs qn qk qt qr qx qdb qde qdf qro qrg db de df dc dp dk u.1 u.2)) u t) (va_A (w0_X5_roomOf G qm qd qs qn qk qt qr qx qdb qde qdf qro qrg db de df dc dp dk ro rg) sz)) 1 6 (va_A (w0_X5_roomOf G qm qd qs qn qk qt qr qx qdb qde qdf qro qrg db de df dc dp dk ro rg) sz) := by
  refine mx_i (cc := cX5_roomOf) (maxL := 2) (ret := some .int) (post := (fun (r : Int32) (u : (Nat → Int32) × (Nat → Int32)) => Q r u.1 u.2)) (w1 := (fun (u : (Nat → Int32) × (Nat → Int32)) => (w0_X5_roomOf G qm qd qs qn qk qt qr qx qdb qde qdf qro qrg db de df dc dp dk u.1 u.2))) (px := (fun (E : String) (u : (Nat → Int32) × (Nat → Int32)) => X E u.1 u.2)) (by decide) rfl (Nat.le_of_ble_eq_true rfl) ?_ sz
  intro p e s m below meth c A ls H locs hx hb hr hml hown hts hlocks hnt hK hG hP hD hS hA hl
  have hown : s.vm.findClass RX5 = some m.cls := hown
  have hl : lv_has ls 2 [(0, .ref qm), (1, .int a1)] := hl
  unfold wx_X5_roomOf at hw
  refine lv_aload_n hx hb dX5_roomOf_0 rfl (lv_at hl 0 rfl) ?_
  refine lv_iload_n hx hb dX5_roomOf_1 rfl (lv_at hl 1 rfl) ?_
  refine kxR_v (xr_V [] ⟨hx, hb, hml, hown, hts⟩ (cx_X5_requireRehearsal l hst G qm qd qs qn qk qt qr qx qdb qde qdf db de df dc dp dk a1 hw H.size) (cwV 1 hts gX5_roomOf_X5_requireRehearsal rfl rfl rfl (by decide +kernel) ⟨Nat.le_of_ble_eq_true rfl, Nat.le_of_ble_eq_true rfl⟩) hK hG hP hD hS hA [0, 1, 2, 3, 4] rfl rfl 5 0 rfl rfl rfl hl.1 rfl (Nat.le_of_ble_eq_true rfl) dX5_roomOf_2 ⟨Nat.le_of_ble_eq_true rfl, Nat.le_of_ble_eq_true rfl⟩) hP hD hS hA [0, 1, 2, 3, 4] rfl (fun E u ce q9 H locs hw hP hS h1 h2 h3 => kx_out (ro, rg) hnt hlocks h1 h2 h3 hK hS hP hD hw (Nat.le_of_ble_eq_true rfl) (Nat.le_of_ble_eq_true rfl)) (fun u H locs hw hP hS => ?_)
  try dsimp only at hw
  refine lv_aload_n hx hb dX5_roomOf_5 rfl (lv_at hl 0 rfl) ?_
  refine va_get (D := gD G) (ci := 5) (v := .ref qr) (C := RX5) (T := TX5) (N := 7) hx hb hts k_X5_roomOf_inX5 hown hK hP 0 rfl rfl 5 (by decide) (hts _ k_X5_roomOf_f41) (fun _ h9 => h9) rfl dX5_roomOf_6 ?_
  refine lv_aload_n hx hb dX5_roomOf_9 rfl (lv_at hl 0 rfl) ?_
  refine va_get (D := gD G) (ci := 5) (v := .ref qd) (C := RX5) (T := TX5) (N := 7) hx hb hts k_X5_roomOf_inX5 hown hK hP 0 rfl rfl 0 (by decide) (hts _ k_X5_roomOf_f10) (fun _ h9 => h9) rfl dX5_roomOf_10 ?_
  refine lv_iload_n hx hb dX5_roomOf_13 rfl (lv_at hl 1 rfl) ?_
  refine kc_i (kr_V [] ⟨hx, hb, hml, hown, hts⟩ (cn_X2_givenTo l G qr qro qrg qd qdb qde qdf ro rg db de df dc dp dk a1 hw H.size) (cwV 2 hts gX5_roomOf_X2_givenTo rfl rfl rfl (by decide +kernel) ⟨Nat.le_of_ble_eq_true rfl, Nat.le_of_ble_eq_true rfl⟩) hK hG hP hD hS hA [5, 6, 7, 1, 2, 3, 4] rfl rfl 2 5 rfl rfl rfl hl.1 rfl (Nat.le_of_ble_eq_true rfl) dX5_roomOf_14 ⟨Nat.le_of_ble_eq_true rfl, Nat.le_of_ble_eq_true rfl⟩) hP hD hS hA [5, 6, 7, 1, 2, 3, 4] [0] rfl rfl rfl (by decide) (fun r1 u H locs hw hP hD hS => ?_)
  obtain ⟨ro_2, rg_3⟩ := u
  try dsimp only at hw
  have hP := hP.sub (ws' := (w0_X5_roomOf G qm qd qs qn qk qt qr qx qdb qde qdf qro qrg db de df dc dp dk ro_2 rg_3)) [0, 4, 5, 6, 7, 1, 2, 3] rfl
  have hD := hD.sub (ws' := (w0_X5_roomOf G qm qd qs qn qk qt qr qx qdb qde qdf qro qrg db de df dc dp dk ro_2 rg_3)) [0, 4, 5, 6, 7, 1, 2, 3] rfl rfl
  exact fin_x (Nat.le_of_ble_eq_true rfl) (Nat.le_of_ble_eq_true rfl) (fin_i (ro_2, rg_3) hx hb hr hlocks hK hS hP hD hw dX5_roomOf_17)

abbrev w0_X5_bestByTrying (G : mG) (qm : Nat) (qd : Nat) (qs : Nat) (qn : Nat) (qk : Nat) (qt : Nat) (qr : Nat) (qx : Nat) (qdb : Nat) (qde : Nat) (qdf : Nat) (qxo : Nat) (qxc : Nat) (qxt : Nat) (db : Nat → Int32) (de : Nat → Int32) (df : Nat → Int32) (dc : Int32) (dp : Int32) (dk : Int32) (ho : Nat → Int32) (hc : Nat → Int32) (ht : Nat → Int32) : va_W := [(qm, .inr (5, [.ref qd, .ref qs, .ref qn, .ref qk, .ref qt, .ref qr, .ref qx])), (qd, .inr (1, [.ref qdb, .ref qde, .ref qdf, .int dc, .int dp, .int dk])), (qdb, .inl (gI G, (14, .inl db))), (qde, .inl (gI G, (14, .inl de))), (qdf, .inl (gI G, (14, .inl df))), (qx, .inr (0, [.ref qxo, .ref qxc, .ref qxt])), (qxo, .inl (gI G, (14, .inl ho))), (qxc, .inl (gI G, (14, .inl hc))), (qxt, .inl (gI G, (15, .inl ht)))]
set_option maxRecDepth 100000 in
theorem k_X5_bestByTrying_inX5 : ∀ w ∈ u_ws RX5 TX5 7, w ∈ wsX5_bestByTrying := by decide +kernel
set_option maxRecDepth 100000 in
theorem k_X5_bestByTrying_f48 : Cond.fieldLink RX5 48 "RehearsalRoom" "choices" "LRehearsalRoom$Choices;" ∈ wsX5_bestByTrying := by decide +kernel
set_option maxRecDepth 100000 in
theorem k_X5_bestByTrying_f10 : Cond.fieldLink RX5 10 "RehearsalRoom" "day" "LRehearsalRoom$Day;" ∈ wsX5_bestByTrying := by decide +kernel
set_option maxHeartbeats 8000000 in
set_option maxRecDepth 100000 in
theorem cn_X5_bestByTrying (l : Launch) (G : mG) (qm : Nat) (qd : Nat) (qs : Nat) (qn : Nat) (qk : Nat) (qt : Nat) (qr : Nat) (qx : Nat) (qdb : Nat) (qde : Nat) (qdf : Nat) (qxo : Nat) (qxc : Nat) (qxt : Nat) (db : Nat → Int32) (de : Nat → Int32) (df : Nat → Int32) (dc : Int32) (dp : Int32) (dk : Int32) (ho : Nat → Int32) (hc : Nat → Int32) (ht : Nat → Int32) {Q : Int32 → (Nat → Int32) → Prop} (hw : wn_X5_bestByTrying db de df dc dp hc Q) (sz : Nat) :
    Met l yX5_bestByTrying wsX5_bestByTrying ({ frames := 20, cells := 0, slots := 0, locals := 524 } : Room) (va_Pc [.ref qm] (mPre G (w0_X5_bestByTrying G qm qd qs qn qk qt qr qx qdb qde qdf qxo qxc qxt db de df dc dp dk ho hc ht) sz)) (va_Qi (fun (r : Int32) (u : (Nat → Int32)) => Q r u) (mBk G (va_A (w0_X5_bestByTrying G qm qd qs qn qk qt qr qx qdb qde qdf qxo qxc qxt db de df dc dp dk ho hc ht) sz) (fun (u : (Nat → Int32)) => (w0_X5_bestByTrying G qm qd qs qn qk qt qr qx qdb qde qdf qxo qxc qxt db de df dc dp dk ho u ht))) (va_A (w0_X5_bestByTrying G qm qd qs qn qk qt qr qx qdb qde qdf qxo qxc qxt db de df dc dp dk ho hc ht) sz)) 0 0 (va_A (w0_X5_bestByTrying G qm qd qs qn qk qt qr qx qdb qde qdf qxo qxc qxt db de df dc dp dk ho hc ht) sz) := by
  refine ms_i (cc := cX5_bestByTrying) (maxL := 1) (ret := some .int) (post := (fun (r : Int32) (u : (Nat → Int32)) => Q r u)) (w1 := (fun (u : (Nat → Int32)) => (w0_X5_bestByTrying G qm qd qs qn qk qt qr qx qdb qde qdf qxo qxc qxt db de df dc dp dk ho u ht))) (by decide) rfl (Nat.le_of_ble_eq_true rfl) ?_ sz
  intro p e s m below meth c A ls H locs hx hb hr hml hown hts hlocks hK hG hP hD hS hA hl
  have hown : s.vm.findClass RX5 = some m.cls := hown
  have hl : lv_has ls 1 [(0, .ref qm)] := hl
  unfold wn_X5_bestByTrying at hw
  refine lv_aload_n hx hb dX5_bestByTrying_0 rfl (lv_at hl 0 rfl) ?_
  refine va_get (D := gD G) (ci := 5) (v := .ref qx) (C := RX5) (T := TX5) (N := 7) hx hb hts k_X5_bestByTrying_inX5 hown hK hP 0 rfl rfl 6 (by decide) (hts _ k_X5_bestByTrying_f48) (fun _ h9 => h9) rfl dX5_bestByTrying_1 ?_
  refine lv_aload_n hx hb dX5_bestByTrying_4 rfl (lv_at hl 0 rfl) ?_
  refine va_get (D := gD G) (ci := 5) (v := .ref qd) (C := RX5) (T := TX5) (N := 7) hx hb hts k_X5_bestByTrying_inX5 hown hK hP 0 rfl rfl 0 (by decide) (hts _ k_X5_bestByTrying_f10) (fun _ h9 => h9) rfl dX5_bestByTrying_5 ?_
  refine kc_i (kr_V [] ⟨hx, hb, hml, hown, hts⟩ (cn_X0_triedFame l G qx qxo qxc qxt qd qdb qde qdf ho hc ht db de df dc dp dk hw H.size) (cwV 1 hts gX5_bestByTrying_X0_triedFame rfl rfl rfl (by decide +kernel) ⟨Nat.le_of_ble_eq_true rfl, Nat.le_of_ble_eq_true rfl⟩) hK hG hP hD hS hA [5, 6, 7, 8, 1, 2, 3, 4] rfl rfl 0 5 rfl rfl rfl hl.1 rfl (Nat.le_of_ble_eq_true rfl) dX5_bestByTrying_8 ⟨Nat.le_of_ble_eq_true rfl, Nat.le_of_ble_eq_true rfl⟩) hP hD hS hA [5, 6, 7, 8, 1, 2, 3, 4] [0] rfl rfl rfl (by decide) (fun r1 u H locs hw hP hD hS => ?_)
  obtain ⟨hc_2, rfl⟩ : ∃ z, z = u := ⟨_, rfl⟩
  try dsimp only at hw
  have hP := hP.sub (ws' := (w0_X5_bestByTrying G qm qd qs qn qk qt qr qx qdb qde qdf qxo qxc qxt db de df dc dp dk ho hc_2 ht)) [0, 5, 6, 7, 8, 1, 2, 3, 4] rfl
  have hD := hD.sub (ws' := (w0_X5_bestByTrying G qm qd qs qn qk qt qr qx qdb qde qdf qxo qxc qxt db de df dc dp dk ho hc_2 ht)) [0, 5, 6, 7, 8, 1, 2, 3, 4] rfl rfl
  exact fin_i (hc_2) hx hb hr hlocks hK hS hP hD hw dX5_bestByTrying_11

abbrev w0_X5_bestByTable (G : mG) (qm : Nat) (qd : Nat) (qs : Nat) (qn : Nat) (qk : Nat) (qt : Nat) (qr : Nat) (qx : Nat) (qdb : Nat) (qde : Nat) (qdf : Nat) (qxo : Nat) (qxc : Nat) (qxt : Nat) (db : Nat → Int32) (de : Nat → Int32) (df : Nat → Int32) (dc : Int32) (dp : Int32) (dk : Int32) (ho : Nat → Int32) (hc : Nat → Int32) (ht : Nat → Int32) : va_W := [(qm, .inr (5, [.ref qd, .ref qs, .ref qn, .ref qk, .ref qt, .ref qr, .ref qx])), (qd, .inr (1, [.ref qdb, .ref qde, .ref qdf, .int dc, .int dp, .int dk])), (qdb, .inl (gI G, (14, .inl db))), (qde, .inl (gI G, (14, .inl de))), (qdf, .inl (gI G, (14, .inl df))), (qx, .inr (0, [.ref qxo, .ref qxc, .ref qxt])), (qxo, .inl (gI G, (14, .inl ho))), (qxc, .inl (gI G, (14, .inl hc))), (qxt, .inl (gI G, (15, .inl ht)))]
set_option maxRecDepth 100000 in
theorem k_X5_bestByTable_inX5 : ∀ w ∈ u_ws RX5 TX5 7, w ∈ wsX5_bestByTable := by decide +kernel
set_option maxRecDepth 100000 in
theorem k_X5_bestByTable_f48 : Cond.fieldLink RX5 48 "RehearsalRoom" "choices" "LRehearsalRoom$Choices;" ∈ wsX5_bestByTable := by decide +kernel
set_option maxRecDepth 100000 in
theorem k_X5_bestByTable_f10 : Cond.fieldLink RX5 10 "RehearsalRoom" "day" "LRehearsalRoom$Day;" ∈ wsX5_bestByTable := by decide +kernel
set_option maxHeartbeats 8000000 in
set_option maxRecDepth 100000 in
theorem cn_X5_bestByTable (l : Launch) (G : mG) (qm : Nat) (qd : Nat) (qs : Nat) (qn : Nat) (qk : Nat) (qt : Nat) (qr : Nat) (qx : Nat) (qdb : Nat) (qde : Nat) (qdf : Nat) (qxo : Nat) (qxc : Nat) (qxt : Nat) (db : Nat → Int32) (de : Nat → Int32) (df : Nat → Int32) (dc : Int32) (dp : Int32) (dk : Int32) (ho : Nat → Int32) (hc : Nat → Int32) (ht : Nat → Int32) {Q : Int32 → (Nat → Int32) → (Nat → Int32) → Prop} (hw : wn_X5_bestByTable db de df dc dp ho ht Q) (sz : Nat) :
    Met l yX5_bestByTable wsX5_bestByTable ({ frames := 3, cells := 0, slots := 0, locals := 66 } : Room) (va_Pc [.ref qm] (mPre G (w0_X5_bestByTable G qm qd qs qn qk qt qr qx qdb qde qdf qxo qxc qxt db de df dc dp dk ho hc ht) sz)) (va_Qi (fun (r : Int32) (u : (Nat → Int32) × (Nat → Int32)) => Q r u.1 u.2) (mBk G (va_A (w0_X5_bestByTable G qm qd qs qn qk qt qr qx qdb qde qdf qxo qxc qxt db de df dc dp dk ho hc ht) sz) (fun (u : (Nat → Int32) × (Nat → Int32)) => (w0_X5_bestByTable G qm qd qs qn qk qt qr qx qdb qde qdf qxo qxc qxt db de df dc dp dk u.1 hc u.2))) (va_A (w0_X5_bestByTable G qm qd qs qn qk qt qr qx qdb qde qdf qxo qxc qxt db de df dc dp dk ho hc ht) sz)) 0 0 (va_A (w0_X5_bestByTable G qm qd qs qn qk qt qr qx qdb qde qdf qxo qxc qxt db de df dc dp dk ho hc ht) sz) := by
  refine ms_i (cc := cX5_bestByTable) (maxL := 1) (ret := some .int) (post := (fun (r : Int32) (u : (Nat → Int32) × (Nat → Int32)) => Q r u.1 u.2)) (w1 := (fun (u : (Nat → Int32) × (Nat → Int32)) => (w0_X5_bestByTable G qm qd qs qn qk qt qr qx qdb qde qdf qxo qxc qxt db de df dc dp dk u.1 hc u.2))) (by decide) rfl (Nat.le_of_ble_eq_true rfl) ?_ sz
  intro p e s m below meth c A ls H locs hx hb hr hml hown hts hlocks hK hG hP hD hS hA hl
  have hown : s.vm.findClass RX5 = some m.cls := hown
  have hl : lv_has ls 1 [(0, .ref qm)] := hl
  unfold wn_X5_bestByTable at hw
  refine lv_aload_n hx hb dX5_bestByTable_0 rfl (lv_at hl 0 rfl) ?_
  refine va_get (D := gD G) (ci := 5) (v := .ref qx) (C := RX5) (T := TX5) (N := 7) hx hb hts k_X5_bestByTable_inX5 hown hK hP 0 rfl rfl 6 (by decide) (hts _ k_X5_bestByTable_f48) (fun _ h9 => h9) rfl dX5_bestByTable_1 ?_
  refine lv_aload_n hx hb dX5_bestByTable_4 rfl (lv_at hl 0 rfl) ?_
  refine va_get (D := gD G) (ci := 5) (v := .ref qd) (C := RX5) (T := TX5) (N := 7) hx hb hts k_X5_bestByTable_inX5 hown hK hP 0 rfl rfl 0 (by decide) (hts _ k_X5_bestByTable_f10) (fun _ h9 => h9) rfl dX5_bestByTable_5 ?_
  refine lv_aload_n hx hb dX5_bestByTable_8 rfl (lv_at hl 0 rfl) ?_
  refine va_get (D := gD G) (ci := 5) (v := .ref qd) (C := RX5) (T := TX5) (N := 7) hx hb hts k_X5_bestByTable_inX5 hown hK hP 0 rfl rfl 0 (by decide) (hts _ k_X5_bestByTable_f10) (fun _ h9 => h9) rfl dX5_bestByTable_9 ?_
  refine kcR_i (kr_V [.ref qd, .ref qx] ⟨hx, hb, hml, hown, hts⟩ (cn_X1_all l G qd qdb qde qdf db de df dc dp dk hw H.size) (cwV 0 hts gX5_bestByTable_X1_all rfl rfl rfl (by decide +kernel) ⟨Nat.le_of_ble_eq_true rfl, Nat.le_of_ble_eq_true rfl⟩) hK hG hP hD hS hA [1, 2, 3, 4] rfl rfl 1 1 rfl rfl rfl hl.1 rfl (Nat.le_of_ble_eq_true rfl) dX5_bestByTable_12 ⟨Nat.le_of_ble_eq_true rfl, Nat.le_of_ble_eq_true rfl⟩) hP hD hS hA [1, 2, 3, 4] rfl (fun r1 u H locs hw hP hS => ?_)
  try dsimp only at hw
  refine kc_i (kr_V [] ⟨hx, hb, hml, hown, hts⟩ (cn_X0_fameAmong l G qx qxo qxc qxt qd qdb qde qdf ho hc ht db de df dc dp dk r1 hw H.size) (cwV 2 hts gX5_bestByTable_X0_fameAmong rfl rfl rfl (by decide +kernel) ⟨Nat.le_of_ble_eq_true rfl, Nat.le_of_ble_eq_true rfl⟩) hK hG hP hD hS hA [5, 6, 7, 8, 1, 2, 3, 4] rfl rfl 0 5 rfl rfl rfl hl.1 rfl (Nat.le_of_ble_eq_true rfl) dX5_bestByTable_15 ⟨Nat.le_of_ble_eq_true rfl, Nat.le_of_ble_eq_true rfl⟩) hP hD hS hA [5, 6, 7, 8, 1, 2, 3, 4] [0] rfl rfl rfl (by decide) (fun r2 u H locs hw hP hD hS => ?_)
  obtain ⟨ho_3, ht_4⟩ := u
  try dsimp only at hw
  have hP := hP.sub (ws' := (w0_X5_bestByTable G qm qd qs qn qk qt qr qx qdb qde qdf qxo qxc qxt db de df dc dp dk ho_3 hc ht_4)) [0, 5, 6, 7, 8, 1, 2, 3, 4] rfl
  have hD := hD.sub (ws' := (w0_X5_bestByTable G qm qd qs qn qk qt qr qx qdb qde qdf qxo qxc qxt db de df dc dp dk ho_3 hc ht_4)) [0, 5, 6, 7, 8, 1, 2, 3, 4] rfl rfl
  exact fin_i (ho_3, ht_4) hx hb hr hlocks hK hS hP hD hw dX5_bestByTable_18
