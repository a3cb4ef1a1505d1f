abbrev w0_X5_bestChoice (G : mG) (qm : Nat) (qd : Nat) (qs : Nat) (qn : Nat) (qk : Nat) (qt : Nat) (qr : Nat) (qx : Nat) (qdb : Nat) (qde : Nat) (qdf : Nat) (qxo : Nat) (qxc : Nat) (qxt : Nat) (db : Nat → Int32) (de : Nat → Int32) (df : Nat → Int32) (dc : Int32) (dp : Int32) (dk : Int32) (ho : Nat → Int32) (hc : Nat → Int32) (ht : Nat → Int32) : va_W := [(qm, .inr (5, [.ref qd, .ref qs, .ref qn, .ref qk, .ref qt, .ref qr, .ref qx])), (qd, .inr (1, [.ref qdb, .ref qde, .ref qdf, .int dc, .int dp, .int dk])), (qdb, .inl (gI G, (14, .inl db))), (qde, .inl (gI G, (14, .inl de))), (qdf, .inl (gI G, (14, .inl df))), (qx, .inr (0, [.ref qxo, .ref qxc, .ref qxt])), (qxo, .inl (gI G, (14, .inl ho))), (qxc, .inl (gI G, (14, .inl hc))), (qxt, .inl (gI G, (15, .inl ht)))]
set_option maxRecDepth 100000 in
theorem k_X5_bestChoice_inX5 : ∀ w ∈ u_ws RX5 TX5 7, w ∈ wsX5_bestChoice := by decide +kernel
set_option maxRecDepth 100000 in
theorem k_X5_bestChoice_f48 : Cond.fieldLink RX5 48 "RehearsalRoom" "choices" "LRehearsalRoom$Choices;" ∈ wsX5_bestChoice := by decide +kernel
set_option maxRecDepth 100000 in
theorem k_X5_bestChoice_f10 : Cond.fieldLink RX5 10 "RehearsalRoom" "day" "LRehearsalRoom$Day;" ∈ wsX5_bestChoice := by decide +kernel
set_option maxHeartbeats 8000000 in
set_option maxRecDepth 100000 in
theorem cn_X5_bestChoice (l : Launch) (G : mG) (qm : Nat) (qd : Nat) (qs : Nat) (qn : Nat) (qk : Nat) (qt : Nat) (qr : Nat) (qx : Nat) (qdb : Nat) (qde : Nat) (qdf : Nat) (qxo : Nat) (qxc : Nat) (qxt : Nat) (db : Nat → Int32) (de : Nat → Int32) (df : Nat → Int32) (dc : Int32) (dp : Int32) (dk : Int32) (ho : Nat → Int32) (hc : Nat → Int32) (ht : Nat → Int32) {Q : Int32 → (Nat → Int32) → (Nat → Int32) → Prop} (hw : wn_X5_bestChoice db de df dc dp ho ht Q) (sz : Nat) :
    Met l yX5_bestChoice wsX5_bestChoice ({ frames := 4, cells := 0, slots := 0, locals := 91 } : Room) (va_Pc [.ref qm] (mPre G (w0_X5_bestChoice G qm qd qs qn qk qt qr qx qdb qde qdf qxo qxc qxt db de df dc dp dk ho hc ht) sz)) (va_Qi (fun (r : Int32) (u : (Nat → Int32) × (Nat → Int32)) => Q r u.1 u.2) (mBk G (va_A (w0_X5_bestChoice G qm qd qs qn qk qt qr qx qdb qde qdf qxo qxc qxt db de df dc dp dk ho hc ht) sz) (fun (u : (Nat → Int32) × (Nat → Int32)) => (w0_X5_bestChoice G qm qd qs qn qk qt qr qx qdb qde qdf qxo qxc qxt db de df dc dp dk u.1 hc u.2))) (va_A (w0_X5_bestChoice G qm qd qs qn qk qt qr qx qdb qde qdf qxo qxc qxt db de df dc dp dk ho hc ht) sz)) 0 0 (va_A (w0_X5_bestChoice G qm qd qs qn qk qt qr qx qdb qde qdf qxo qxc qxt db de df dc dp dk ho hc ht) sz) := by
  refine ms_i (cc := cX5_bestChoice) (maxL := 1) (ret := some .int) (post := (fun (r : Int32) (u : (Nat → Int32) × (Nat → Int32)) => Q r u.1 u.2)) (w1 := (fun (u : (Nat → Int32) × (Nat → Int32)) => (w0_X5_bestChoice G qm qd qs qn qk qt qr qx qdb qde qdf qxo qxc qxt db de df dc dp dk u.1 hc u.2))) (by decide) rfl (Nat.le_of_ble_eq_true rfl) ?_ sz
  intro p e s m below meth c A ls H locs hx hb hr hml hown hts hlocks hK hG hP hD hS hA hl
  have hown : s.vm.findClass RX5 = some m.cls := hown
  have hl : lv_has ls 1 [(0, .ref qm)] := hl
  unfold wn_X5_bestChoice at hw
  refine lv_aload_n hx hb dX5_bestChoice_0 rfl (lv_at hl 0 rfl) ?_
  refine va_get (D := gD G) (ci := 5) (v := .ref qx) (C := RX5) (T := TX5) (N := 7) hx hb hts k_X5_bestChoice_inX5 hown hK hP 0 rfl rfl 6 (by decide) (hts _ k_X5_bestChoice_f48) (fun _ h9 => h9) rfl dX5_bestChoice_1 ?_
  refine lv_aload_n hx hb dX5_bestChoice_4 rfl (lv_at hl 0 rfl) ?_
  refine va_get (D := gD G) (ci := 5) (v := .ref qd) (C := RX5) (T := TX5) (N := 7) hx hb hts k_X5_bestChoice_inX5 hown hK hP 0 rfl rfl 0 (by decide) (hts _ k_X5_bestChoice_f10) (fun _ h9 => h9) rfl dX5_bestChoice_5 ?_
  refine kc_i (kr_V [] ⟨hx, hb, hml, hown, hts⟩ (cn_X0_bestSet l G qx qxo qxc qxt qd qdb qde qdf ho hc ht db de df dc dp dk hw H.size) (cwV 1 hts gX5_bestChoice_X0_bestSet rfl rfl rfl (by decide +kernel) ⟨Nat.le_of_ble_eq_true rfl, Nat.le_of_ble_eq_true rfl⟩) hK hG hP hD hS hA [5, 6, 7, 8, 1, 2, 3, 4] rfl rfl 0 5 rfl rfl rfl hl.1 rfl (Nat.le_of_ble_eq_true rfl) dX5_bestChoice_8 ⟨Nat.le_of_ble_eq_true rfl, Nat.le_of_ble_eq_true rfl⟩) hP hD hS hA [5, 6, 7, 8, 1, 2, 3, 4] [0] rfl rfl rfl (by decide) (fun r1 u H locs hw hP hD hS => ?_)
  obtain ⟨ho_2, ht_3⟩ := u
  try dsimp only at hw
  have hP := hP.sub (ws' := (w0_X5_bestChoice G qm qd qs qn qk qt qr qx qdb qde qdf qxo qxc qxt db de df dc dp dk ho_2 hc ht_3)) [0, 5, 6, 7, 8, 1, 2, 3, 4] rfl
  have hD := hD.sub (ws' := (w0_X5_bestChoice G qm qd qs qn qk qt qr qx qdb qde qdf qxo qxc qxt db de df dc dp dk ho_2 hc ht_3)) [0, 5, 6, 7, 8, 1, 2, 3, 4] rfl rfl
  exact fin_i (ho_2, ht_3) hx hb hr hlocks hK hS hP hD hw dX5_bestChoice_11

abbrev w0_X5_mostRehearsals (G : mG) (qm : Nat) (qd : Nat) (qs : Nat) (qn : Nat) (qk : Nat) (qt : Nat) (qr : Nat) (qx : Nat) (qdb : Nat) (qde : Nat) (qdf : Nat) (qxo : Nat) (qxc : Nat) (qxt : Nat) (db : Nat → Int32) (de : Nat → Int32) (df : Nat → Int32) (dc : Int32) (dp : Int32) (dk : Int32) (ho : Nat → Int32) (hc : Nat → Int32) (ht : Nat → Int32) : va_W := [(qm, .inr (5, [.ref qd, .ref qs, .ref qn, .ref qk, .ref qt, .ref qr, .ref qx])), (qd, .inr (1, [.ref qdb, .ref qde, .ref qdf, .int dc, .int dp, .int dk])), (qdb, .inl (gI G, (14, .inl db))), (qde, .inl (gI G, (14, .inl de))), (qdf, .inl (gI G, (14, .inl df))), (qx, .inr (0, [.ref qxo, .ref qxc, .ref qxt])), (qxo, .inl (gI G, (14, .inl ho))), (qxc, .inl (gI G, (14, .inl hc))), (qxt, .inl (gI G, (15, .inl ht)))]
set_option maxRecDepth 100000 in
theorem k_X5_mostRehearsals_inX5 : ∀ w ∈ u_ws RX5 TX5 7, w ∈ wsX5_mostRehearsals := by decide +kernel
set_option maxRecDepth 100000 in
theorem k_X5_mostRehearsals_f48 : Cond.fieldLink RX5 48 "RehearsalRoom" "choices" "LRehearsalRoom$Choices;" ∈ wsX5_mostRehearsals := by decide +kernel
set_option maxRecDepth 100000 in
theorem k_X5_mostRehearsals_f10 : Cond.fieldLink RX5 10 "RehearsalRoom" "day" "LRehearsalRoom$Day;" ∈ wsX5_mostRehearsals := by decide +kernel
set_option maxHeartbeats 8000000 in
set_option maxRecDepth 100000 in
theorem cn_X5_mostRehearsals (l : Launch) (G : mG) (qm : Nat) (qd : Nat) (qs : Nat) (qn : Nat) (qk : Nat) (qt : Nat) (qr : Nat) (qx : Nat) (qdb : Nat) (qde : Nat) (qdf : Nat) (qxo : Nat) (qxc : Nat) (qxt : Nat) (db : Nat → Int32) (de : Nat → Int32) (df : Nat → Int32) (dc : Int32) (dp : Int32) (dk : Int32) (ho : Nat → Int32) (hc : Nat → Int32) (ht : Nat → Int32) {Q : Int32 → (Nat → Int32) → Prop} (hw : wn_X5_mostRehearsals db de dc dp ho Q) (sz : Nat) :
    Met l yX5_mostRehearsals wsX5_mostRehearsals ({ frames := 2, cells := 0, slots := 0, locals := 49 } : Room) (va_Pc [.ref qm] (mPre G (w0_X5_mostRehearsals G qm qd qs qn qk qt qr qx qdb qde qdf qxo qxc qxt db de df dc dp dk ho hc ht) sz)) (va_Qi (fun (r : Int32) (u : (Nat → Int32)) => Q r u) (mBk G (va_A (w0_X5_mostRehearsals G qm qd qs qn qk qt qr qx qdb qde qdf qxo qxc qxt db de df dc dp dk ho hc ht) sz) (fun (u : (Nat → Int32)) => (w0_X5_mostRehearsals G qm qd qs qn qk qt qr qx qdb qde qdf qxo qxc qxt db de df dc dp dk u hc ht))) (va_A (w0_X5_mostRehearsals G qm qd qs qn qk qt qr qx qdb qde qdf qxo qxc qxt db de df dc dp dk ho hc ht) sz)) 0 0 (va_A (w0_X5_mostRehearsals G qm qd qs qn qk qt qr qx qdb qde qdf qxo qxc qxt db de df dc dp dk ho hc ht) sz) := by
  refine ms_i (cc := cX5_mostRehearsals) (maxL := 1) (ret := some .int) (post := (fun (r : Int32) (u : (Nat → Int32)) => Q r u)) (w1 := (fun (u : (Nat → Int32)) => (w0_X5_mostRehearsals G qm qd qs qn qk qt qr qx qdb qde qdf qxo qxc qxt db de df dc dp dk u hc ht))) (by decide) rfl (Nat.le_of_ble_eq_true rfl) ?_ sz
  intro p e s m below meth c A ls H locs hx hb hr hml hown hts hlocks hK hG hP hD hS hA hl
  have hown : s.vm.findClass RX5 = some m.cls := hown
  have hl : lv_has ls 1 [(0, .ref qm)] := hl
  unfold wn_X5_mostRehearsals at hw
  refine lv_aload_n hx hb dX5_mostRehearsals_0 rfl (lv_at hl 0 rfl) ?_
  refine va_get (D := gD G) (ci := 5) (v := .ref qx) (C := RX5) (T := TX5) (N := 7) hx hb hts k_X5_mostRehearsals_inX5 hown hK hP 0 rfl rfl 6 (by decide) (hts _ k_X5_mostRehearsals_f48) (fun _ h9 => h9) rfl dX5_mostRehearsals_1 ?_
  refine lv_aload_n hx hb dX5_mostRehearsals_4 rfl (lv_at hl 0 rfl) ?_
  refine va_get (D := gD G) (ci := 5) (v := .ref qd) (C := RX5) (T := TX5) (N := 7) hx hb hts k_X5_mostRehearsals_inX5 hown hK hP 0 rfl rfl 0 (by decide) (hts _ k_X5_mostRehearsals_f10) (fun _ h9 => h9) rfl dX5_mostRehearsals_5 ?_
  refine kc_i (kr_V [] ⟨hx, hb, hml, hown, hts⟩ (cn_X0_mostInOne l G qx qxo qxc qxt qd qdb qde qdf ho hc ht db de df dc dp dk hw H.size) (cwV 1 hts gX5_mostRehearsals_X0_mostInOne rfl rfl rfl (by decide +kernel) ⟨Nat.le_of_ble_eq_true rfl, Nat.le_of_ble_eq_true rfl⟩) hK hG hP hD hS hA [5, 6, 7, 8, 1, 2, 3, 4] rfl rfl 0 5 rfl rfl rfl hl.1 rfl (Nat.le_of_ble_eq_true rfl) dX5_mostRehearsals_8 ⟨Nat.le_of_ble_eq_true rfl, Nat.le_of_ble_eq_true rfl⟩) hP hD hS hA [5, 6, 7, 8, 1, 2, 3, 4] [0] rfl rfl rfl (by decide) (fun r1 u H locs hw hP hD hS => ?_)
  obtain ⟨ho_2, rfl⟩ : ∃ z, z = u := ⟨_, rfl⟩
  try dsimp only at hw
  have hP := hP.sub (ws' := (w0_X5_mostRehearsals G qm qd qs qn qk qt qr qx qdb qde qdf qxo qxc qxt db de df dc dp dk ho_2 hc ht)) [0, 5, 6, 7, 8, 1, 2, 3, 4] rfl
  have hD := hD.sub (ws' := (w0_X5_mostRehearsals G qm qd qs qn qk qt qr qx qdb qde qdf qxo qxc qxt db de df dc dp dk ho_2 hc ht)) [0, 5, 6, 7, 8, 1, 2, 3, 4] rfl rfl
  exact fin_i (ho_2) hx hb hr hlocks hK hS hP hD hw dX5_mostRehearsals_11

abbrev w0_X5_bestWith (G : mG) (qm : Nat) (qd : Nat) (qs : Nat) (qn : Nat) (qk : Nat) (qt : Nat) (qr : Nat) (qx : Nat) (qdb : Nat) (qde : Nat) (qdf : Nat) (qxo : Nat) (qxc : Nat) (qxt : Nat) (db : Nat → Int32) (de : Nat → Int32) (df : Nat → Int32) (dc : Int32) (dp : Int32) (dk : Int32) (ho : Nat → Int32) (hc : Nat → Int32) (ht : Nat → Int32) : va_W := [(qm, .inr (5, [.ref qd, .ref qs, .ref qn, .ref qk, .ref qt, .ref qr, .ref qx])), (qd, .inr (1, [.ref qdb, .ref qde, .ref qdf, .int dc, .int dp, .int dk])), (qdb, .inl (gI G, (14, .inl db))), (qde, .inl (gI G, (14, .inl de))), (qdf, .inl (gI G, (14, .inl df))), (qx, .inr (0, [.ref qxo, .ref qxc, .ref qxt])), (qxo, .inl (gI G, (14, .inl ho))), (qxc, .inl (gI G, (14, .inl hc))), (qxt, .inl (gI G, (15, .inl ht)))]
set_option maxRecDepth 100000 in
theorem k_X5_bestWith_inX5 : ∀ w ∈ u_ws RX5 TX5 7, w ∈ wsX5_bestWith := by decide +kernel
set_option maxRecDepth 100000 in
theorem k_X5_bestWith_f10 : Cond.fieldLink RX5 10 "RehearsalRoom" "day" "LRehearsalRoom$Day;" ∈ wsX5_bestWith := by decide +kernel
set_option maxRecDepth 100000 in
theorem k_X5_bestWith_inX1 : ∀ w ∈ u_ws RX1 TX1 6, w ∈ wsX5_bestWith := by decide +kernel
set_option maxRecDepth 100000 in
theorem k_X5_bestWith_f78 : Cond.fieldLink RX5 78 "RehearsalRoom$Day" "fames" "[I" ∈ wsX5_bestWith := by decide +kernel
set_option maxRecDepth 100000 in
theorem k_X5_bestWith_f48 : Cond.fieldLink RX5 48 "RehearsalRoom" "choices" "LRehearsalRoom$Choices;" ∈ wsX5_bestWith := by decide +kernel
set_option maxHeartbeats 8000000 in
set_option maxRecDepth 100000 in
theorem cx_X5_bestWith (l : Launch) (hst : l.stackTraces = false) (G : mG) (qm : Nat) (qd : Nat) (qs : Nat) (qn : Nat) (qk : Nat) (qt : Nat) (qr : Nat) (qx : Nat) (qdb : Nat) (qde : Nat) (qdf : Nat) (qxo : Nat) (qxc : Nat) (qxt : Nat) (db : Nat → Int32) (de : Nat → Int32) (df : Nat → Int32) (dc : Int32) (dp : Int32) (dk : Int32) (ho : Nat → Int32) (hc : Nat → Int32) (ht : Nat → Int32) (a1 : Int32) {Q : Int32 → (Nat → Int32) → (Nat → Int32) → Prop} {X : String → (Nat → Int32) → (Nat → Int32) → Prop} (hw : wx_X5_bestWith db de df dc dp ho ht a1 Q X) (sz : Nat) :
    vx_Met l yX5_bestWith wsX5_bestWith ({ frames := 7, cells := 1, slots := 6, locals := 111 } : Room) (va_Pc [.ref qm, .int a1] (mPre G (w0_X5_bestWith G qm qd qs qn qk qt qr qx qdb qde qdf qxo qxc qxt db de df dc dp dk ho hc ht) sz)) (va_Qi (fun (r : Int32) (u : (Nat → Int32) × (Nat → Int32)) => Q r u.1 u.2) (mBk G (va_A (w0_X5_bestWith G qm qd qs qn qk qt qr qx qdb qde qdf qxo qxc qxt db de df dc dp dk ho hc ht) sz) (fun (u : (Nat → Int32) × (Nat → Int32)) => (w0_X5_bestWith G qm qd qs qn qk qt qr qx qdb qde qdf qxo qxc qxt db de df dc dp dk u.1 hc u.2))) (va_A (w0_X5_bestWith G qm qd qs qn qk qt qr qx qdb qde qdf qxo qxc qxt db de df dc dp dk ho hc ht) sz)) (vx_X (fun _ => True) (fun E u t => (fun (E : String) (u : (Nat → Int32) × (Nat → Int32)) => X E u.1 u.2) E u ∧ mBk G (va_A (w0_X5_bestWith G qm qd qs qn qk qt qr qx qdb qde qdf qxo qxc qxt db de df dc dp dk ho hc ht) sz) (fun (u : (Nat → Int32) × (Nat → Int32)) => (w0_X5_bestWith G qm qd qs qn qk qt qr qx qdb qde qdf qxo qxc qxt db de df dc dp dk u.1 hc u.2)) u t) (va_A (w0_X5_bestWith G qm qd qs qn qk qt qr qx qdb qde qdf qxo qxc qxt db de df dc dp dk ho hc ht) sz)) 1 6 (va_A (w0_X5_bestWith G qm qd qs qn qk qt qr qx qdb qde qdf qxo qxc qxt db de df dc dp dk ho hc ht) sz) := by
  refine mx_i (cc := cX5_bestWith) (maxL := 3) (ret := some .int) (post := (fun (r : Int32) (u : (Nat → Int32) × (Nat → Int32)) => Q r u.1 u.2)) (w1 := (fun (u : (Nat → Int32) × (Nat → Int32)) => (w0_X5_bestWith G qm qd qs qn qk qt qr qx qdb qde qdf qxo qxc qxt db de df dc dp dk u.1 hc u.2))) (px := (fun (E : String) (u : (Nat → Int32) × (Nat → Int32)) => X E u.1 u.2)) (by decide) rfl (Nat.le_of_ble_eq_true rfl) ?_ sz
  intro p e s m below meth c A ls H locs hx hb hr hml hown hts hlocks hnt hK hG hP hD hS hA hl
  have hown : s.vm.findClass RX5 = some m.cls := hown
  have hl : lv_has ls 3 [(0, .ref qm), (1, .int a1)] := hl
  unfold wx_X5_bestWith at hw
  refine lv_aload_n hx hb dX5_bestWith_0 rfl (lv_at hl 0 rfl) ?_
  refine lv_iload_n hx hb dX5_bestWith_1 rfl (lv_at hl 1 rfl) ?_
  refine kxR_v (xr_V [] ⟨hx, hb, hml, hown, hts⟩ (cx_X5_requireRehearsal l hst G qm qd qs qn qk qt qr qx qdb qde qdf db de df dc dp dk a1 hw H.size) (cwV 1 hts gX5_bestWith_X5_requireRehearsal rfl rfl rfl (by decide +kernel) ⟨Nat.le_of_ble_eq_true rfl, Nat.le_of_ble_eq_true rfl⟩) hK hG hP hD hS hA [0, 1, 2, 3, 4] rfl rfl 5 0 rfl rfl rfl hl.1 rfl (Nat.le_of_ble_eq_true rfl) dX5_bestWith_2 ⟨Nat.le_of_ble_eq_true rfl, Nat.le_of_ble_eq_true rfl⟩) hP hD hS hA [0, 1, 2, 3, 4] rfl (fun E u ce q9 H locs hw hP hS h1 h2 h3 => kx_out (ho, ht) hnt hlocks h1 h2 h3 hK hS hP hD hw (Nat.le_of_ble_eq_true rfl) (Nat.le_of_ble_eq_true rfl)) (fun u H locs hw hP hS => ?_)
  try dsimp only at hw
  refine lv_aload_n hx hb dX5_bestWith_5 rfl (lv_at hl 0 rfl) ?_
  refine va_get (D := gD G) (ci := 5) (v := .ref qd) (C := RX5) (T := TX5) (N := 7) hx hb hts k_X5_bestWith_inX5 hown hK hP 0 rfl rfl 0 (by decide) (hts _ k_X5_bestWith_f10) (fun _ h9 => h9) rfl dX5_bestWith_6 ?_
  refine kcR_i (kr_V [] ⟨hx, hb, hml, hown, hts⟩ (cn_X1_all l G qd qdb qde qdf db de df dc dp dk hw H.size) (cwV 0 hts gX5_bestWith_X1_all rfl rfl rfl (by decide +kernel) ⟨Nat.le_of_ble_eq_true rfl, Nat.le_of_ble_eq_true rfl⟩) hK hG hP hD hS hA [1, 2, 3, 4] rfl rfl 1 1 rfl rfl rfl hl.1 rfl (Nat.le_of_ble_eq_true rfl) dX5_bestWith_9 ⟨Nat.le_of_ble_eq_true rfl, Nat.le_of_ble_eq_true rfl⟩) hP hD hS hA [1, 2, 3, 4] rfl (fun r1 u H locs hw hP hS => ?_)
  try dsimp only at hw
  refine lv_iload_n hx hb dX5_bestWith_12 rfl (lv_at hl 1 rfl) ?_
  refine kcR_i (kr_S [.int r1] ⟨hx, hb, hml, hown, hts⟩ (cn_X5_bit l G a1 hw H.size) (va_cwS 1 hts gX5_bestWith_X5_bit rfl rfl rfl (by decide +kernel) ⟨Nat.le_of_ble_eq_true rfl, Nat.le_of_ble_eq_true rfl⟩) hK hG hP hD hS hA [] rfl rfl rfl hl.1 rfl (Nat.le_of_ble_eq_true rfl) dX5_bestWith_13 ⟨Nat.le_of_ble_eq_true rfl, Nat.le_of_ble_eq_true rfl⟩) hP hD hS hA [] rfl (fun r2 u H locs hw hP hS => ?_)
  try dsimp only at hw
  refine lv_iconst (v := -1) hx hb dX5_bestWith_16 (by decide) ?_
  refine lv_ixor hx hb dX5_bestWith_17 ?_
  refine lv_iand hx hb dX5_bestWith_18 ?_
  refine lv_aload_n hx hb dX5_bestWith_19 rfl (lv_at hl 0 rfl) ?_
  refine va_get (D := gD G) (ci := 5) (v := .ref qd) (C := RX5) (T := TX5) (N := 7) hx hb hts k_X5_bestWith_inX5 hown hK hP 0 rfl rfl 0 (by decide) (hts _ k_X5_bestWith_f10) (fun _ h9 => h9) rfl dX5_bestWith_20 ?_
  refine lv_iload_n hx hb dX5_bestWith_23 rfl (lv_at hl 1 rfl) ?_
  refine kcR_i (kr_V [.int (r1 &&& (r2 ^^^ (-1 : Int32)))] ⟨hx, hb, hml, hown, hts⟩ (cn_X1_conflictsWith l G qd qdb qde qdf db de df dc dp dk a1 hw H.size) (cwV 1 hts gX5_bestWith_X1_conflictsWith rfl rfl rfl (by decide +kernel) ⟨Nat.le_of_ble_eq_true rfl, Nat.le_of_ble_eq_true rfl⟩) hK hG hP hD hS hA [1, 2, 3, 4] rfl rfl 1 1 rfl rfl rfl hl.1 rfl (Nat.le_of_ble_eq_true rfl) dX5_bestWith_24 ⟨Nat.le_of_ble_eq_true rfl, Nat.le_of_ble_eq_true rfl⟩) hP hD hS hA [1, 2, 3, 4] rfl (fun r3 u H locs hw hP hS => ?_)
  try dsimp only at hw
  refine lv_iconst (v := -1) hx hb dX5_bestWith_27 (by decide) ?_
  refine lv_ixor hx hb dX5_bestWith_28 ?_
  refine lv_iand hx hb dX5_bestWith_29 ?_
  refine lv_istore_n (lv' := [(2, .int ((r1 &&& (r2 ^^^ (-1 : Int32))) &&& (r3 ^^^ (-1 : Int32)))), (0, .ref qm), (1, .int a1)]) hx hb dX5_bestWith_30 rfl hl (by decide) rfl (fun ls hl => ?_)
  refine lv_aload_n hx hb dX5_bestWith_31 rfl (lv_at hl 1 rfl) ?_
  refine va_get (D := gD G) (ci := 5) (v := .ref qd) (C := RX5) (T := TX5) (N := 7) hx hb hts k_X5_bestWith_inX5 hown hK hP 0 rfl rfl 0 (by decide) (hts _ k_X5_bestWith_f10) (fun _ h9 => h9) rfl dX5_bestWith_32 ?_
  refine va_get (D := gD G) (ci := 1) (v := .ref qdf) (C := RX1) (T := TX1) (N := 6) hx hb hts k_X5_bestWith_inX1 hown hK hP 1 rfl rfl 2 (by decide) (hts _ k_X5_bestWith_f78) (fun _ h9 => h9) rfl dX5_bestWith_35 ?_
  refine lv_iload_n hx hb dX5_bestWith_38 rfl (lv_at hl 2 rfl) ?_
  obtain ⟨h4, hw⟩ := hw
  refine va_iald hx hb hK hP 4 0 rfl rfl h4 dX5_bestWith_39 ?_
  refine lv_aload_n hx hb dX5_bestWith_40 rfl (lv_at hl 1 rfl) ?_
  refine va_get (D := gD G) (ci := 5) (v := .ref qx) (C := RX5) (T := TX5) (N := 7) hx hb hts k_X5_bestWith_inX5 hown hK hP 0 rfl rfl 6 (by decide) (hts _ k_X5_bestWith_f48) (fun _ h9 => h9) rfl dX5_bestWith_41 ?_
  refine lv_aload_n hx hb dX5_bestWith_44 rfl (lv_at hl 1 rfl) ?_
  refine va_get (D := gD G) (ci := 5) (v := .ref qd) (C := RX5) (T := TX5) (N := 7) hx hb hts k_X5_bestWith_inX5 hown hK hP 0 rfl rfl 0 (by decide) (hts _ k_X5_bestWith_f10) (fun _ h9 => h9) rfl dX5_bestWith_45 ?_
  refine lv_iload_n hx hb dX5_bestWith_48 rfl (lv_at hl 0 rfl) ?_
  refine kc_i (kr_V [.int (df a1.toNatClampNeg)] ⟨hx, hb, hml, hown, hts⟩ (cn_X0_fameAmong l G qx qxo qxc qxt qd qdb qde qdf ho hc ht db de df dc dp dk ((r1 &&& (r2 ^^^ (-1 : Int32))) &&& (r3 ^^^ (-1 : Int32))) hw H.size) (cwV 2 hts gX5_bestWith_X0_fameAmong rfl rfl rfl (by decide +kernel) ⟨Nat.le_of_ble_eq_true rfl, Nat.le_of_ble_eq_true rfl⟩) hK hG hP hD hS hA [5, 6, 7, 8, 1, 2, 3, 4] rfl rfl 0 5 rfl rfl rfl hl.1 rfl (Nat.le_of_ble_eq_true rfl) dX5_bestWith_49 ⟨Nat.le_of_ble_eq_true rfl, Nat.le_of_ble_eq_true rfl⟩) hP hD hS hA [5, 6, 7, 8, 1, 2, 3, 4] [0] rfl rfl rfl (by decide) (fun r5 u H locs hw hP hD hS => ?_)
  obtain ⟨ho_6, ht_7⟩ := u
  try dsimp only at hw
  have hP := hP.sub (ws' := (w0_X5_bestWith G qm qd qs qn qk qt qr qx qdb qde qdf qxo qxc qxt db de df dc dp dk ho_6 hc ht_7)) [0, 5, 6, 7, 8, 1, 2, 3, 4] rfl
  have hD := hD.sub (ws' := (w0_X5_bestWith G qm qd qs qn qk qt qr qx qdb qde qdf qxo qxc qxt db de df dc dp dk ho_6 hc ht_7)) [0, 5, 6, 7, 8, 1, 2, 3, 4] rfl rfl
  refine lv_iadd hx hb dX5_bestWith_52 ?_
  exact fin_x (Nat.le_of_ble_eq_true rfl) (Nat.le_of_ble_eq_true rfl) (fin_i (ho_6, ht_7) hx hb hr hlocks hK hS hP hD hw dX5_bestWith_53)

abbrev w0_X5_bookedShare (G : mG) (qm : Nat) (qd : Nat) (qs : Nat) (qn : Nat) (qk : Nat) (qt : Nat) (qr : Nat) (qx : Nat) (qdb : Nat) (qde : Nat) (qdf : Nat) (db : Nat → Int32) (de : Nat → Int32) (df : Nat → Int32) (dc : Int32) (dp : Int32) (dk : Int32) : va_W := [(qm, .inr (5, [.ref qd, .ref qs, .ref qn, .ref qk, .ref qt, .ref qr, .ref qx])), (qd, .inr (1, [.ref qdb, .ref qde, .ref qdf, .int dc, .int dp, .int dk])), (qdb, .inl (gI G, (14, .inl db))), (qde, .inl (gI G, (14, .inl de))), (qdf, .inl (gI G, (14, .inl df)))]
set_option maxRecDepth 100000 in
theorem k_X5_bookedShare_inX5 : ∀ w ∈ u_ws RX5 TX5 7, w ∈ wsX5_bookedShare := by decide +kernel
set_option maxRecDepth 100000 in
theorem k_X5_bookedShare_f10 : Cond.fieldLink RX5 10 "RehearsalRoom" "day" "LRehearsalRoom$Day;" ∈ wsX5_bookedShare := by decide +kernel
set_option maxRecDepth 100000 in
theorem k_X5_bookedShare_inX1 : ∀ w ∈ u_ws RX1 TX1 6, w ∈ wsX5_bookedShare := by decide +kernel
set_option maxRecDepth 100000 in
theorem k_X5_bookedShare_f128 : Cond.fieldLink RX5 128 "RehearsalRoom$Day" "bookings" "I" ∈ wsX5_bookedShare := by decide +kernel
set_option maxRecDepth 100000 in
theorem k_X5_bookedShare_c229 : Cond.constantDouble RX5 229 (4636455816377925632) ∈ wsX5_bookedShare := by decide +kernel
set_option maxHeartbeats 8000000 in
set_option maxRecDepth 100000 in
theorem cn_X5_bookedShare (l : Launch) (G : mG) (qm : Nat) (qd : Nat) (qs : Nat) (qn : Nat) (qk : Nat) (qt : Nat) (qr : Nat) (qx : Nat) (qdb : Nat) (qde : Nat) (qdf : Nat) (db : Nat → Int32) (de : Nat → Int32) (df : Nat → Int32) (dc : Int32) (dp : Int32) (dk : Int32) {Q : UInt64 → Prop} (hw : wn_X5_bookedShare db de dc dk Q) (sz : Nat) :
    Met l yX5_bookedShare wsX5_bookedShare ({ frames := 3, cells := 0, slots := 0, locals := 64 } : Room) (va_Pc [.ref qm] (mPre G (w0_X5_bookedShare G qm qd qs qn qk qt qr qx qdb qde qdf db de df dc dp dk) sz)) (va_Qd (fun (r : UInt64) (u : Unit) => Q r) (mBk G (va_A (w0_X5_bookedShare G qm qd qs qn qk qt qr qx qdb qde qdf db de df dc dp dk) sz) (fun (u : Unit) => (w0_X5_bookedShare G qm qd qs qn qk qt qr qx qdb qde qdf db de df dc dp dk))) (va_A (w0_X5_bookedShare G qm qd qs qn qk qt qr qx qdb qde qdf db de df dc dp dk) sz)) 0 0 (va_A (w0_X5_bookedShare G qm qd qs qn qk qt qr qx qdb qde qdf db de df dc dp dk) sz) := by
  refine ms_d (cc := cX5_bookedShare) (maxL := 1) (ret := some .double) (post := (fun (r : UInt64) (u : Unit) => Q r)) (w1 := (fun (u : Unit) => (w0_X5_bookedShare G qm qd qs qn qk qt qr qx qdb qde qdf db de df dc dp dk))) (by decide) rfl (Nat.le_of_ble_eq_true rfl) ?_ sz
  intro p e s m below meth c A ls H locs hx hb hr hml hown hts hlocks hK hG hP hD hS hA hl
  have hown : s.vm.findClass RX5 = some m.cls := hown
  have hl : lv_has ls 1 [(0, .ref qm)] := hl
  unfold wn_X5_bookedShare at hw
  refine lv_aload_n hx hb dX5_bookedShare_0 rfl (lv_at hl 0 rfl) ?_
  refine va_get (D := gD G) (ci := 5) (v := .ref qd) (C := RX5) (T := TX5) (N := 7) hx hb hts k_X5_bookedShare_inX5 hown hK hP 0 rfl rfl 0 (by decide) (hts _ k_X5_bookedShare_f10) (fun _ h9 => h9) rfl dX5_bookedShare_1 ?_
  refine lv_aload_n hx hb dX5_bookedShare_4 rfl (lv_at hl 0 rfl) ?_
  refine va_get (D := gD G) (ci := 5) (v := .ref qd) (C := RX5) (T := TX5) (N := 7) hx hb hts k_X5_bookedShare_inX5 hown hK hP 0 rfl rfl 0 (by decide) (hts _ k_X5_bookedShare_f10) (fun _ h9 => h9) rfl dX5_bookedShare_5 ?_
  refine va_get (D := gD G) (ci := 1) (v := .int dk) (C := RX1) (T := TX1) (N := 6) hx hb hts k_X5_bookedShare_inX1 hown hK hP 1 rfl rfl 5 (by decide) (hts _ k_X5_bookedShare_f128) (fun _ h9 => h9) rfl dX5_bookedShare_8 ?_
  refine kcR_i (kr_V [] ⟨hx, hb, hml, hown, hts⟩ (cn_X1_quartersOfSet l G qd qdb qde qdf db de df dc dp dk dk hw H.size) (cwV 1 hts gX5_bookedShare_X1_quartersOfSet rfl rfl rfl (by decide +kernel) ⟨Nat.le_of_ble_eq_true rfl, Nat.le_of_ble_eq_true rfl⟩) hK hG hP hD hS hA [1, 2, 3, 4] rfl rfl 1 1 rfl rfl rfl hl.1 rfl (Nat.le_of_ble_eq_true rfl) dX5_bookedShare_11 ⟨Nat.le_of_ble_eq_true rfl, Nat.le_of_ble_eq_true rfl⟩) hP hD hS hA [1, 2, 3, 4] rfl (fun r1 u H locs hw hP hS => ?_)
  try dsimp only at hw
  refine lv_i2d hx hb dX5_bookedShare_14 ?_
  refine lv_ldc2d (v := 4636455816377925632) hx hb hown (hts _ k_X5_bookedShare_c229) dX5_bookedShare_15 ?_
  obtain ⟨h2, hw⟩ := hw
  refine lv_ddiv hx hb dX5_bookedShare_18 h2 ?_
  exact fin_d () hx hb hr hlocks hK hS hP hD hw dX5_bookedShare_19

abbrev w0_X5_mix (G : mG) : va_W := []
set_option maxRecDepth 100000 in
theorem k_X5_mix_c323 : Cond.constantLong RX5 323 (31) ∈ wsX5_mix := by decide +kernel
set_option maxHeartbeats 8000000 in
set_option maxRecDepth 100000 in
theorem cn_X5_mix (l : Launch) (G : mG) (a0 : Int64) (a2 : Int64) {Q : Int64 → Prop} (hw : wn_X5_mix a0 a2 Q) (sz : Nat) :
    Met l yX5_mix wsX5_mix ({ frames := 0, cells := 0, slots := 0, locals := 0 } : Room) (va_Pc [.long a0, .long a2] (mPre G (w0_X5_mix G) sz)) (va_Ql (fun (r : Int64) (u : Unit) => Q r) (mBk G (va_A (w0_X5_mix G) sz) (fun (u : Unit) => (w0_X5_mix G))) (va_A (w0_X5_mix G) sz)) 0 0 (va_A (w0_X5_mix G) sz) := by
  refine ms_l (cc := cX5_mix) (maxL := 4) (ret := some .long) (post := (fun (r : Int64) (u : Unit) => Q r)) (w1 := (fun (u : Unit) => (w0_X5_mix G))) (by decide) rfl (Nat.le_of_ble_eq_true rfl) ?_ sz
  intro p e s m below meth c A ls H locs hx hb hr hml hown hts hlocks hK hG hP hD hS hA hl
  have hown : s.vm.findClass RX5 = some m.cls := hown
  have hl : lv_has ls 4 [(0, .long a0), (2, .long a2)] := hl
  unfold wn_X5_mix at hw
  refine lv_ldc2 (v := 31) hx hb hown (hts _ k_X5_mix_c323) dX5_mix_0 ?_
  refine lv_lload_n hx hb dX5_mix_3 rfl (lv_at hl 0 rfl) ?_
  refine lv_lmul hx hb dX5_mix_4 ?_
  refine lv_lload_n hx hb dX5_mix_5 rfl (lv_at hl 1 rfl) ?_
  refine lv_ladd hx hb dX5_mix_6 ?_
  exact fin_l () hx hb hr hlocks hK hS hP hD hw dX5_mix_7

abbrev w0_X5_bitsOf (G : mG) : va_W := []
set_option maxRecDepth 100000 in
theorem k_X5_bitsOf_c329 : Cond.constantDouble RX5 329 (4611686018427387904) ∈ wsX5_bitsOf := by decide +kernel
set_option maxHeartbeats 8000000 in
set_option maxRecDepth 100000 in
theorem cn_X5_bitsOf (l : Launch) (G : mG) (a0 : UInt64) (a2 : Int32) (a3 : Int32) {Q : Int64 → Prop} (hw : wn_X5_bitsOf a0 a2 a3 Q) (sz : Nat) :
    Met l yX5_bitsOf wsX5_bitsOf ({ frames := 0, cells := 0, slots := 0, locals := 0 } : Room) (va_Pc [.double a0, .int a2, .int a3] (mPre G (w0_X5_bitsOf G) sz)) (va_Ql (fun (r : Int64) (u : Unit) => Q r) (mBk G (va_A (w0_X5_bitsOf G) sz) (fun (u : Unit) => (w0_X5_bitsOf G))) (va_A (w0_X5_bitsOf G) sz)) 0 0 (va_A (w0_X5_bitsOf G) sz) := by
  refine ms_l (cc := cX5_bitsOf) (maxL := 9) (ret := some .long) (post := (fun (r : Int64) (u : Unit) => Q r)) (w1 := (fun (u : Unit) => (w0_X5_bitsOf G))) (by decide) rfl (Nat.le_of_ble_eq_true rfl) ?_ sz
  intro p e s m below meth c A ls H locs hx hb hr hml hown hts hlocks hK hG hP hD hS hA hl
  have hown : s.vm.findClass RX5 = some m.cls := hown
  have hl : lv_has ls 9 [(0, .double a0), (2, .int a2), (3, .int a3)] := hl
  have J72 : ∀ (x0 : UInt64) (x2 : Int32) (x3 : Int32) (x4 : UInt64) (x6 : Int32) (H : Heap) (locs : List Loc) (ls : Array Slot), va_P (gD G) vwCl (w0_X5_bitsOf G) H → va_D A (w0_X5_bitsOf G) → va_S A s.heap H locs → lv_has ls 9 [(0, .double x0), (2, .int x2), (3, .int x3), (4, .double x4), (6, .int x6)] → wj_n_X5_bitsOf_72 Q x0 x2 x3 x4 x6 → W p l e ({ frames := 0, cells := 0, slots := 0, locals := 0 } : Room) s m ([.double a0, .int a2, .int a3] : List Value).toArray below meth c H locs 0 0 (MQ below (va_Ql (fun (r : Int64) (u : Unit) => Q r) (mBk G A (fun (u : Unit) => (w0_X5_bitsOf G))) A) ([.double a0, .int a2, .int a3] : List Value).toArray s 0 0 A) (F0 m 72 ls []) := by
    intro x0 x2 x3 x4 x6 H locs ls hP hD hS hl hw
    unfold wj_n_X5_bitsOf_72 at hw
    refine lv_dload hx hb dX5_bitsOf_72 (lv_at hl 3 rfl) ?_
    refine lv_dconst1 hx hb dX5_bitsOf_74 ?_
    obtain ⟨h4, hw⟩ := hw
    refine lv_dsub hx hb dX5_bitsOf_75 h4 ?_
    refine lv_lconst (v := 1) hx hb dX5_bitsOf_76 (by decide) ?_
    refine lv_iload_n hx hb dX5_bitsOf_77 rfl (lv_at hl 1 rfl) ?_
    refine lv_lshl hx hb dX5_bitsOf_78 rfl ?_
    refine lv_l2d hx hb dX5_bitsOf_79 ?_
    obtain ⟨h5, hw⟩ := hw
    refine lv_dmul hx hb dX5_bitsOf_80 h5 ?_
    refine lv_d2l hx hb dX5_bitsOf_81 ?_
    refine lv_topl (fun v6 ev6 => ?_)
    have hw := hw v6 ev6
    refine lv_lstore (lv' := [(7, .long v6), (0, .double x0), (2, .int x2), (3, .int x3), (4, .double x4), (6, .int x6)]) hx hb dX5_bitsOf_82 hl (by decide) rfl (fun ls hl => ?_)
    refine lv_iload hx hb dX5_bitsOf_84 (lv_at hl 5 rfl) ?_
    refine lv_i2l hx hb dX5_bitsOf_86 rfl ?_
    refine lv_iload_n hx hb dX5_bitsOf_87 rfl (lv_at hl 2 rfl) ?_
    refine lv_lshl hx hb dX5_bitsOf_88 rfl ?_
    refine lv_lload hx hb dX5_bitsOf_89 (lv_at hl 0 rfl) ?_
    refine lv_ladd hx hb dX5_bitsOf_91 ?_
    exact fin_l () hx hb hr hlocks hK hS hP hD hw dX5_bitsOf_92
  have J45 : ∀ (n : Nat) (x0 : UInt64) (x2 : Int32) (x3 : Int32) (x4 : UInt64) (x6 : Int32) (H : Heap) (locs : List Loc) (ls : Array Slot), va_P (gD G) vwCl (w0_X5_bitsOf G) H → va_D A (w0_X5_bitsOf G) → va_S A s.heap H locs → lv_has ls 9 [(0, .double x0), (2, .int x2), (3, .int x3), (4, .double x4), (6, .int x6)] → wl_n_X5_bitsOf_45 Q n x0 x2 x3 x4 x6 → W p l e ({ frames := 0, cells := 0, slots := 0, locals := 0 } : Room) s m ([.double a0, .int a2, .int a3] : List Value).toArray below meth c H locs 0 0 (MQ below (va_Ql (fun (r : Int64) (u : Unit) => Q r) (mBk G A (fun (u : Unit) => (w0_X5_bitsOf G))) A) ([.double a0, .int a2, .int a3] : List Value).toArray s 0 0 A) (F0 m 45 ls []) := by
    intro n
    induction n with
    | zero => intro x0 x2 x3 x4 x6 H locs ls hP hD hS hl hw; exact False.elim hw
    | succ n ih =>
      intro x0 x2 x3 x4 x6 H locs ls hP hD hS hl hw
      rw [wl_n_X5_bitsOf_45] at hw
      refine lv_dload hx hb dX5_bitsOf_45 (lv_at hl 3 rfl) ?_
      refine lv_dconst1 hx hb dX5_bitsOf_47 ?_
      refine lv_dcmp hx hb dX5_bitsOf_48 ?_
      refine lv_if_ge (tgt := 72) hx hb dX5_bitsOf_49 (by decide) (fun cd3 => ?_) (fun cd3 => ?_)
      · have hw := hw.1 cd3
        exact J72 x0 x2 x3 x4 x6 _ _ _ hP hD hS hl hw
      · have hw := hw.2 cd3
        refine lv_iload hx hb dX5_bitsOf_52 (lv_at hl 4 rfl) ?_
        refine lv_iconst (v := 1) hx hb dX5_bitsOf_54 (by decide) ?_
        refine lv_icmp_le (tgt := 72) hx hb dX5_bitsOf_55 (by decide) (fun cd7 => ?_) (fun cd7 => ?_)
        · have hw := hw.1 cd7
          exact J72 x0 x2 x3 x4 x6 _ _ _ hP hD hS hl hw
        · have hw := hw.2 cd7
          refine lv_dload hx hb dX5_bitsOf_58 (lv_at hl 3 rfl) ?_
          refine lv_ldc2d (v := 4611686018427387904) hx hb hown (hts _ k_X5_bitsOf_c329) dX5_bitsOf_60 ?_
          obtain ⟨h8, hw⟩ := hw
          refine lv_dmul hx hb dX5_bitsOf_63 h8 ?_
          refine lv_dstore (lv' := [(4, .double (FP.dmul x4 (4611686018427387904 : UInt64))), (0, .double x0), (2, .int x2), (3, .int x3), (6, .int x6)]) hx hb dX5_bitsOf_64 hl (by decide) rfl (fun ls hl => ?_)
          refine lv_iinc (v := (x6 + (-1))) (lv' := [(6, .int (x6 + (-1))), (4, .double (FP.dmul x4 (4611686018427387904 : UInt64))), (0, .double x0), (2, .int x2), (3, .int x3)]) hx hb dX5_bitsOf_66 hl (k := 4) rfl rfl (by decide) rfl (fun ls hl => ?_)
          refine lv_goto (tgt := 45) hx hb dX5_bitsOf_69 (by decide) ?_
          exact ih x0 x2 x3 (FP.dmul x4 (4611686018427387904 : UInt64)) (x6 + (-1)) _ _ _ hP hD hS (lv_sub hl [2, 3, 4, 1, 0] rfl) hw
  have J14 : ∀ (n : Nat) (x0 : UInt64) (x2 : Int32) (x3 : Int32) (x4 : UInt64) (x6 : Int32) (H : Heap) (locs : List Loc) (ls : Array Slot), va_P (gD G) vwCl (w0_X5_bitsOf G) H → va_D A (w0_X5_bitsOf G) → va_S A s.heap H locs → lv_has ls 9 [(0, .double x0), (2, .int x2), (3, .int x3), (4, .double x4), (6, .int x6)] → wl_n_X5_bitsOf_14 Q n x0 x2 x3 x4 x6 → W p l e ({ frames := 0, cells := 0, slots := 0, locals := 0 } : Room) s m ([.double a0, .int a2, .int a3] : List Value).toArray below meth c H locs 0 0 (MQ below (va_Ql (fun (r : Int64) (u : Unit) => Q r) (mBk G A (fun (u : Unit) => (w0_X5_bitsOf G))) A) ([.double a0, .int a2, .int a3] : List Value).toArray s 0 0 A) (F0 m 14 ls []) := by
    intro n
    induction n with
    | zero => intro x0 x2 x3 x4 x6 H locs ls hP hD hS hl hw; exact False.elim hw
    | succ n ih =>
      intro x0 x2 x3 x4 x6 H locs ls hP hD hS hl hw
      rw [wl_n_X5_bitsOf_14] at hw
      refine lv_dload hx hb dX5_bitsOf_14 (lv_at hl 3 rfl) ?_
      refine lv_ldc2d (v := 4611686018427387904) hx hb hown (hts _ k_X5_bitsOf_c329) dX5_bitsOf_16 ?_
      refine lv_dcmp hx hb dX5_bitsOf_19 ?_
      refine lv_if_lt (tgt := 45) hx hb dX5_bitsOf_20 (by decide) (fun cd2 => ?_) (fun cd2 => ?_)
      · have hw := hw.1 cd2
        obtain ⟨n45, hw⟩ := hw
        exact J45 n45 x0 x2 x3 x4 x6 _ _ _ hP hD hS hl hw
      · have hw := hw.2 cd2
        refine lv_iload hx hb dX5_bitsOf_23 (lv_at hl 4 rfl) ?_
        refine lv_iconst (v := 2) hx hb dX5_bitsOf_25 (by decide) ?_
        refine lv_iload_n hx hb dX5_bitsOf_26 rfl (lv_at hl 2 rfl) ?_
        refine lv_imul hx hb dX5_bitsOf_27 ?_
        refine lv_icmp_ge (tgt := 45) hx hb dX5_bitsOf_28 (by decide) (fun cd9 => ?_) (fun cd9 => ?_)
        · have hw := hw.1 cd9
          obtain ⟨n45, hw⟩ := hw
          exact J45 n45 x0 x2 x3 x4 x6 _ _ _ hP hD hS hl hw
        · have hw := hw.2 cd9
          refine lv_dload hx hb dX5_bitsOf_31 (lv_at hl 3 rfl) ?_
          refine lv_ldc2d (v := 4611686018427387904) hx hb hown (hts _ k_X5_bitsOf_c329) dX5_bitsOf_33 ?_
          obtain ⟨h10, hw⟩ := hw
          refine lv_ddiv hx hb dX5_bitsOf_36 h10 ?_
          refine lv_dstore (lv' := [(4, .double (FP.ddiv x4 (4611686018427387904 : UInt64))), (0, .double x0), (2, .int x2), (3, .int x3), (6, .int x6)]) hx hb dX5_bitsOf_37 hl (by decide) rfl (fun ls hl => ?_)
          refine lv_iinc (v := (x6 + 1)) (lv' := [(6, .int (x6 + 1)), (4, .double (FP.ddiv x4 (4611686018427387904 : UInt64))), (0, .double x0), (2, .int x2), (3, .int x3)]) hx hb dX5_bitsOf_39 hl (k := 4) rfl rfl (by decide) rfl (fun ls hl => ?_)
          refine lv_goto (tgt := 14) hx hb dX5_bitsOf_42 (by decide) ?_
          exact ih x0 x2 x3 (FP.ddiv x4 (4611686018427387904 : UInt64)) (x6 + 1) _ _ _ hP hD hS (lv_sub hl [2, 3, 4, 1, 0] rfl) hw
  unfold wn_X5_bitsOf at hw
  refine lv_dload_n hx hb dX5_bitsOf_0 rfl (lv_at hl 0 rfl) ?_
  refine lv_dconst0 hx hb dX5_bitsOf_1 ?_
  refine lv_dcmp hx hb dX5_bitsOf_2 ?_
  refine lv_if_gt (tgt := 8) hx hb dX5_bitsOf_3 (by decide) (fun cd1 => ?_) (fun cd1 => ?_)
  · have hw := hw.1 cd1
    refine lv_dload_n hx hb dX5_bitsOf_8 rfl (lv_at hl 0 rfl) ?_
    refine lv_dstore (lv' := [(4, .double a0), (0, .double a0), (2, .int a2), (3, .int a3)]) hx hb dX5_bitsOf_9 hl (by decide) rfl (fun ls hl => ?_)
    refine lv_iload_n hx hb dX5_bitsOf_11 rfl (lv_at hl 3 rfl) ?_
    refine lv_istore (lv' := [(6, .int a3), (4, .double a0), (0, .double a0), (2, .int a2), (3, .int a3)]) hx hb dX5_bitsOf_12 hl (by decide) rfl (fun ls hl => ?_)
    obtain ⟨n14, hw⟩ := hw
    exact J14 n14 a0 a2 a3 a0 a3 _ _ _ hP hD hS (lv_sub hl [2, 3, 4, 1, 0] rfl) hw
  · have hw := hw.2 cd1
    refine lv_lconst (v := 0) hx hb dX5_bitsOf_6 (by decide) ?_
    exact fin_l () hx hb hr hlocks hK hS hP hD hw dX5_bitsOf_7

abbrev w0_X5_doubleBits (G : mG) : va_W := []
set_option maxHeartbeats 8000000 in
set_option maxRecDepth 100000 in
theorem cn_X5_doubleBits (l : Launch) (G : mG) (a0 : UInt64) {Q : Int64 → Prop} (hw : wn_X5_doubleBits a0 Q) (sz : Nat) :
    Met l yX5_doubleBits wsX5_doubleBits ({ frames := 1, cells := 0, slots := 0, locals := 28 } : Room) (va_Pc [.double a0] (mPre G (w0_X5_doubleBits G) sz)) (va_Ql (fun (r : Int64) (u : Unit) => Q r) (mBk G (va_A (w0_X5_doubleBits G) sz) (fun (u : Unit) => (w0_X5_doubleBits G))) (va_A (w0_X5_doubleBits G) sz)) 0 0 (va_A (w0_X5_doubleBits G) sz) := by
  refine ms_l (cc := cX5_doubleBits) (maxL := 2) (ret := some .long) (post := (fun (r : Int64) (u : Unit) => Q r)) (w1 := (fun (u : Unit) => (w0_X5_doubleBits G))) (by decide) rfl (Nat.le_of_ble_eq_true rfl) ?_ sz
  intro p e s m below meth c A ls H locs hx hb hr hml hown hts hlocks hK hG hP hD hS hA hl
  have hown : s.vm.findClass RX5 = some m.cls := hown
  have hl : lv_has ls 2 [(0, .double a0)] := hl
  unfold wn_X5_doubleBits at hw
  refine lv_dload_n hx hb dX5_doubleBits_0 rfl (lv_at hl 0 rfl) ?_
  refine lv_bipush (v := 52) hx hb dX5_doubleBits_1 (by decide) ?_
  refine lv_sipush (v := 1023) hx hb dX5_doubleBits_3 (by decide) ?_
  refine kcR_l (kr_S [] ⟨hx, hb, hml, hown, hts⟩ (cn_X5_bitsOf l G a0 (52 : Int32) (1023 : Int32) hw H.size) (va_cwS 3 hts gX5_doubleBits_X5_bitsOf rfl rfl rfl (by decide +kernel) ⟨Nat.le_of_ble_eq_true rfl, Nat.le_of_ble_eq_true rfl⟩) hK hG hP hD hS hA [] rfl rfl rfl hl.1 rfl (Nat.le_of_ble_eq_true rfl) dX5_doubleBits_6 ⟨Nat.le_of_ble_eq_true rfl, Nat.le_of_ble_eq_true rfl⟩) hP hD hS hA [] rfl (fun r1 u H locs hw hP hS => ?_)
  try dsimp only at hw
  exact fin_l () hx hb hr hlocks hK hS hP hD hw dX5_doubleBits_9

abbrev w0_X5_mixWhole (G : mG) (qm : Nat) (qd : Nat) (qs : Nat) (qn : Nat) (qk : Nat) (qt : Nat) (qr : Nat) (qx : Nat) (qdb : Nat) (qde : Nat) (qdf : Nat) (qsa : Nat) (qs0 : Nat) (qs0b : Nat) (qs0e : Nat) (qs0f : Nat) (qs1 : Nat) (qs1b : Nat) (qs1e : Nat) (qs1f : Nat) (qs2 : Nat) (qs2b : Nat) (qs2e : Nat) (qs2f : Nat) (qs3 : Nat) (qs3b : Nat) (qs3e : Nat) (qs3f : Nat) (qs4 : Nat) (qs4b : Nat) (qs4e : Nat) (qs4f : Nat) (qs5 : Nat) (qs5b : Nat) (qs5e : Nat) (qs5f : Nat) (qro : Nat) (qrg : Nat) (qxo : Nat) (qxc : Nat) (qxt : Nat) (db : Nat → Int32) (de : Nat → Int32) (df : Nat → Int32) (dc : Int32) (dp : Int32) (dk : Int32) (so : Int32) (sn : Int32) (sb : Nat → Nat → Int32) (se : Nat → Nat → Int32) (sf : Nat → Nat → Int32) (sc : Nat → Int32) (sp : Nat → Int32) (sk : Nat → Int32) (ro : Nat → Int32) (rg : Nat → Int32) (ho : Nat → Int32) (hc : Nat → Int32) (ht : Nat → Int32) : va_W := [(qm, .inr (5, [.ref qd, .ref qs, .ref qn, .ref qk, .ref qt, .ref qr, .ref qx])), (qd, .inr (1, [.ref qdb, .ref qde, .ref qdf, .int dc, .int dp, .int dk])), (qdb, .inl (gI G, (14, .inl db))), (qde, .inl (gI G, (14, .inl de))), (qdf, .inl (gI G, (14, .inl df))), (qs, .inr (3, [.ref qsa, .int so, .int sn])), (qsa, .inl (gQ G, (6, .inr (.inr (.inr (.inr (g6 qs0 qs1 qs2 qs3 qs4 qs5))))))), (qs0, .inr (1, [.ref qs0b, .ref qs0e, .ref qs0f, .int (sc 0), .int (sp 0), .int (sk 0)])), (qs0b, .inl (gI G, (14, .inl (sb 0)))), (qs0e, .inl (gI G, (14, .inl (se 0)))), (qs0f, .inl (gI G, (14, .inl (sf 0)))), (qs1, .inr (1, [.ref qs1b, .ref qs1e, .ref qs1f, .int (sc 1), .int (sp 1), .int (sk 1)])), (qs1b, .inl (gI G, (14, .inl (sb 1)))), (qs1e, .inl (gI G, (14, .inl (se 1)))), (qs1f, .inl (gI G, (14, .inl (sf 1)))), (qs2, .inr (1, [.ref qs2b, .ref qs2e, .ref qs2f, .int (sc 2), .int (sp 2), .int (sk 2)])), (qs2b, .inl (gI G, (14, .inl (sb 2)))), (qs2e, .inl (gI G, (14, .inl (se 2)))), (qs2f, .inl (gI G, (14, .inl (sf 2)))), (qs3, .inr (1, [.ref qs3b, .ref qs3e, .ref qs3f, .int (sc 3), .int (sp 3), .int (sk 3)])), (qs3b, .inl (gI G, (14, .inl (sb 3)))), (qs3e, .inl (gI G, (14, .inl (se 3)))), (qs3f, .inl (gI G, (14, .inl (sf 3)))), (qs4, .inr (1, [.ref qs4b, .ref qs4e, .ref qs4f, .int (sc 4), .int (sp 4), .int (sk 4)])), (qs4b, .inl (gI G, (14, .inl (sb 4)))), (qs4e, .inl (gI G, (14, .inl (se 4)))), (qs4f, .inl (gI G, (14, .inl (sf 4)))), (qs5, .inr (1, [.ref qs5b, .ref qs5e, .ref qs5f, .int (sc 5), .int (sp 5), .int (sk 5)])), (qs5b, .inl (gI G, (14, .inl (sb 5)))), (qs5e, .inl (gI G, (14, .inl (se 5)))), (qs5f, .inl (gI G, (14, .inl (sf 5)))), (qr, .inr (2, [.ref qro, .ref qrg])), (qro, .inl (gI G, (14, .inl ro))), (qrg, .inl (gI G, (14, .inl rg))), (qx, .inr (0, [.ref qxo, .ref qxc, .ref qxt])), (qxo, .inl (gI G, (14, .inl ho))), (qxc, .inl (gI G, (14, .inl hc))), (qxt, .inl (gI G, (15, .inl ht)))]
set_option maxHeartbeats 8000000 in
set_option maxRecDepth 100000 in
theorem cn_X5_mixWhole (l : Launch) (G : mG) (qm : Nat) (qd : Nat) (qs : Nat) (qn : Nat) (qk : Nat) (qt : Nat) (qr : Nat) (qx : Nat) (qdb : Nat) (qde : Nat) (qdf : Nat) (qsa : Nat) (qs0 : Nat) (qs0b : Nat) (qs0e : Nat) (qs0f : Nat) (qs1 : Nat) (qs1b : Nat) (qs1e : Nat) (qs1f : Nat) (qs2 : Nat) (qs2b : Nat) (qs2e : Nat) (qs2f : Nat) (qs3 : Nat) (qs3b : Nat) (qs3e : Nat) (qs3f : Nat) (qs4 : Nat) (qs4b : Nat) (qs4e : Nat) (qs4f : Nat) (qs5 : Nat) (qs5b : Nat) (qs5e : Nat) (qs5f : Nat) (qro : Nat) (qrg : Nat) (qxo : Nat) (qxc : Nat) (qxt : Nat) (db : Nat → Int32) (de : Nat → Int32) (df : Nat → Int32) (dc : Int32) (dp : Int32) (dk : Int32) (so : Int32) (sn : Int32) (sb : Nat → Nat → Int32) (se : Nat → Nat → Int32) (sf : Nat → Nat → Int32) (sc : Nat → Int32) (sp : Nat → Int32) (sk : Nat → Int32) (ro : Nat → Int32) (rg : Nat → Int32) (ho : Nat → Int32) (hc : Nat → Int32) (ht : Nat → Int32) (a1 : Int64) {Q : Int64 → (Nat → Int32) → (Nat → Int32) → (Nat → Int32) → (Nat → Int32) → (Nat → Int32) → Prop} (hw : wn_X5_mixWhole db de df dc dp dk sn ro rg ho hc ht a1 Q) (sz : Nat) :
    Met l yX5_mixWhole wsX5_mixWhole ({ frames := 21, cells := 0, slots := 0, locals := 544 } : Room) (va_Pc [.ref qm, .long a1] (mPre G (w0_X5_mixWhole G qm qd qs qn qk qt qr qx qdb qde qdf qsa qs0 qs0b qs0e qs0f qs1 qs1b qs1e qs1f qs2 qs2b qs2e qs2f qs3 qs3b qs3e qs3f qs4 qs4b qs4e qs4f qs5 qs5b qs5e qs5f qro qrg qxo qxc qxt db de df dc dp dk so sn sb se sf sc sp sk ro rg ho hc ht) sz)) (va_Ql (fun (r : Int64) (u : (Nat → Int32) × (Nat → Int32) × (Nat → Int32) × (Nat → Int32) × (Nat → Int32)) => Q r u.1 u.2.1 u.2.2.1 u.2.2.2.1 u.2.2.2.2) (mBk G (va_A (w0_X5_mixWhole G qm qd qs qn qk qt qr qx qdb qde qdf qsa qs0 qs0b qs0e qs0f qs1 qs1b qs1e qs1f qs2 qs2b qs2e qs2f qs3 qs3b qs3e qs3f qs4 qs4b qs4e qs4f qs5 qs5b qs5e qs5f qro qrg qxo qxc qxt db de df dc dp dk so sn sb se sf sc sp sk ro rg ho hc ht) sz) (fun (u : (Nat → Int32) × (Nat → Int32) × (Nat → Int32) × (Nat → Int32) × (Nat → Int32)) => (w0_X5_mixWhole G qm qd qs qn qk qt qr qx qdb qde qdf qsa qs0 qs0b qs0e qs0f qs1 qs1b qs1e qs1f qs2 qs2b qs2e qs2f qs3 qs3b qs3e qs3f qs4 qs4b qs4e qs4f qs5 qs5b qs5e qs5f qro qrg qxo qxc qxt db de df dc dp dk so sn sb se sf sc sp sk u.1 u.2.1 u.2.2.1 u.2.2.2.1 u.2.2.2.2))) (va_A (w0_X5_mixWhole G qm qd qs qn qk qt qr qx qdb qde qdf qsa qs0 qs0b qs0e qs0f qs1 qs1b qs1e qs1f qs2 qs2b qs2e qs2f qs3 qs3b qs3e qs3f qs4 qs4b qs4e qs4f qs5 qs5b qs5e qs5f qro qrg qxo qxc qxt db de df dc dp dk so sn sb se sf sc sp sk ro rg ho hc ht) sz)) 0 0 (va_A (w0_X5_mixWhole G qm qd qs qn qk qt qr qx qdb qde qdf qsa qs0 qs0b qs0e qs0f qs1 qs1b qs1e qs1f qs2 qs2b qs2e qs2f qs3 qs3b qs3e qs3f qs4 qs4b qs4e qs4f qs5 qs5b qs5e qs5f qro qrg qxo qxc qxt db de df dc dp dk so sn sb se sf sc sp sk ro rg ho hc ht) sz) := by
  refine ms_l (cc := cX5_mixWhole) (maxL := 5) (ret := some .long) (post := (fun (r : Int64) (u : (Nat → Int32) × (Nat → Int32) × (Nat → Int32) × (Nat → Int32) × (Nat → Int32)) => Q r u.1 u.2.1 u.2.2.1 u.2.2.2.1 u.2.2.2.2)) (w1 := (fun (u : (Nat → Int32) × (Nat → Int32) × (Nat → Int32) × (Nat → Int32) × (Nat → Int32)) => (w0_X5_mixWhole G qm qd qs qn qk qt qr qx qdb qde qdf qsa qs0 qs0b qs0e qs0f qs1 qs1b qs1e qs1f qs2 qs2b qs2e qs2f qs3 qs3b qs3e qs3f qs4 qs4b qs4e qs4f qs5 qs5b qs5e qs5f qro qrg qxo qxc qxt db de df dc dp dk so sn sb se sf sc sp sk u.1 u.2.1 u.2.2.1 u.2.2.2.1 u.2.2.2.2))) (by decide) rfl (Nat.le_of_ble_eq_true rfl) ?_ sz
  intro p e s m below meth c A ls H locs hx hb hr hml hown hts hlocks hK hG hP hD hS hA hl
  have hown : s.vm.findClass RX5 = some m.cls := hown
  have hl : lv_has ls 5 [(0, .ref qm), (1, .long a1)] := hl
  unfold wn_X5_mixWhole at hw
  refine lv_lload_n hx hb dX5_mixWhole_0 rfl (lv_at hl 1 rfl) ?_
  refine lv_aload_n hx hb dX5_mixWhole_1 rfl (lv_at hl 0 rfl) ?_
  refine kcR_i (kr_V [.long a1] ⟨hx, hb, hml, hown, hts⟩ (cn_X5_pause l G qm qd qs qn qk qt qr qx qdb qde qdf db de df dc dp dk hw H.size) (cwV 0 hts gX5_mixWhole_X5_pause rfl rfl rfl (by decide +kernel) ⟨Nat.le_of_ble_eq_true rfl, Nat.le_of_ble_eq_true rfl⟩) hK hG hP hD hS hA [0, 1, 2, 3, 4] rfl rfl 5 0 rfl rfl rfl hl.1 rfl (Nat.le_of_ble_eq_true rfl) dX5_mixWhole_2 ⟨Nat.le_of_ble_eq_true rfl, Nat.le_of_ble_eq_true rfl⟩) hP hD hS hA [0, 1, 2, 3, 4] rfl (fun r1 u H locs hw hP hS => ?_)
  try dsimp only at hw
  refine lv_i2l hx hb dX5_mixWhole_5 rfl ?_
  refine kcR_l (kr_S [] ⟨hx, hb, hml, hown, hts⟩ (cn_X5_mix l G a1 r1.toInt64 hw H.size) (va_cwS 2 hts gX5_mixWhole_X5_mix rfl rfl rfl (by decide +kernel) ⟨Nat.le_of_ble_eq_true rfl, Nat.le_of_ble_eq_true rfl⟩) hK hG hP hD hS hA [] rfl rfl rfl hl.1 rfl (Nat.le_of_ble_eq_true rfl) dX5_mixWhole_6 ⟨Nat.le_of_ble_eq_true rfl, Nat.le_of_ble_eq_true rfl⟩) hP hD hS hA [] rfl (fun r2 u H locs hw hP hS => ?_)
  try dsimp only at hw
  refine lv_lstore_n (lv' := [(3, .long r2), (0, .ref qm), (1, .long a1)]) hx hb dX5_mixWhole_9 rfl hl (by decide) rfl (fun ls hl => ?_)
  refine lv_lload_n hx hb dX5_mixWhole_10 rfl (lv_at hl 0 rfl) ?_
  refine lv_aload_n hx hb dX5_mixWhole_11 rfl (lv_at hl 1 rfl) ?_
  refine kcR_i (kr_V [.long r2] ⟨hx, hb, hml, hown, hts⟩ (cn_X5_booked l G qm qd qs qn qk qt qr qx qdb qde qdf db de df dc dp dk hw H.size) (cwV 0 hts gX5_mixWhole_X5_booked rfl rfl rfl (by decide +kernel) ⟨Nat.le_of_ble_eq_true rfl, Nat.le_of_ble_eq_true rfl⟩) hK hG hP hD hS hA [0, 1, 2, 3, 4] rfl rfl 5 0 rfl rfl rfl hl.1 rfl (Nat.le_of_ble_eq_true rfl) dX5_mixWhole_12 ⟨Nat.le_of_ble_eq_true rfl, Nat.le_of_ble_eq_true rfl⟩) hP hD hS hA [0, 1, 2, 3, 4] rfl (fun r3 u H locs hw hP hS => ?_)
  try dsimp only at hw
  refine lv_i2l hx hb dX5_mixWhole_15 rfl ?_
  refine kcR_l (kr_S [] ⟨hx, hb, hml, hown, hts⟩ (cn_X5_mix l G r2 r3.toInt64 hw H.size) (va_cwS 2 hts gX5_mixWhole_X5_mix rfl rfl rfl (by decide +kernel) ⟨Nat.le_of_ble_eq_true rfl, Nat.le_of_ble_eq_true rfl⟩) hK hG hP hD hS hA [] rfl rfl rfl hl.1 rfl (Nat.le_of_ble_eq_true rfl) dX5_mixWhole_16 ⟨Nat.le_of_ble_eq_true rfl, Nat.le_of_ble_eq_true rfl⟩) hP hD hS hA [] rfl (fun r4 u H locs hw hP hS => ?_)
  try dsimp only at hw
  refine lv_lstore_n (lv' := [(3, .long r4), (0, .ref qm), (1, .long a1)]) hx hb dX5_mixWhole_19 rfl hl (by decide) rfl (fun ls hl => ?_)
  refine lv_lload_n hx hb dX5_mixWhole_20 rfl (lv_at hl 0 rfl) ?_
  refine lv_aload_n hx hb dX5_mixWhole_21 rfl (lv_at hl 1 rfl) ?_
  refine kcR_i (kr_V [.long r4] ⟨hx, hb, hml, hown, hts⟩ (cn_X5_bookedFame l G qm qd qs qn qk qt qr qx qdb qde qdf db de df dc dp dk hw H.size) (cwV 0 hts gX5_mixWhole_X5_bookedFame rfl rfl rfl (by decide +kernel) ⟨Nat.le_of_ble_eq_true rfl, Nat.le_of_ble_eq_true rfl⟩) hK hG hP hD hS hA [0, 1, 2, 3, 4] rfl rfl 5 0 rfl rfl rfl hl.1 rfl (Nat.le_of_ble_eq_true rfl) dX5_mixWhole_22 ⟨Nat.le_of_ble_eq_true rfl, Nat.le_of_ble_eq_true rfl⟩) hP hD hS hA [0, 1, 2, 3, 4] rfl (fun r5 u H locs hw hP hS => ?_)
  try dsimp only at hw
  refine lv_i2l hx hb dX5_mixWhole_25 rfl ?_
  refine kcR_l (kr_S [] ⟨hx, hb, hml, hown, hts⟩ (cn_X5_mix l G r4 r5.toInt64 hw H.size) (va_cwS 2 hts gX5_mixWhole_X5_mix rfl rfl rfl (by decide +kernel) ⟨Nat.le_of_ble_eq_true rfl, Nat.le_of_ble_eq_true rfl⟩) hK hG hP hD hS hA [] rfl rfl rfl hl.1 rfl (Nat.le_of_ble_eq_true rfl) dX5_mixWhole_26 ⟨Nat.le_of_ble_eq_true rfl, Nat.le_of_ble_eq_true rfl⟩) hP hD hS hA [] rfl (fun r6 u H locs hw hP hS => ?_)
  try dsimp only at hw
  refine lv_lstore_n (lv' := [(3, .long r6), (0, .ref qm), (1, .long a1)]) hx hb dX5_mixWhole_29 rfl hl (by decide) rfl (fun ls hl => ?_)
  refine lv_lload_n hx hb dX5_mixWhole_30 rfl (lv_at hl 0 rfl) ?_
  refine lv_aload_n hx hb dX5_mixWhole_31 rfl (lv_at hl 1 rfl) ?_
  refine kcR_i (kr_V [.long r6] ⟨hx, hb, hml, hown, hts⟩ (cn_X5_conflictsByPairs l G qm qd qs qn qk qt qr qx qdb qde qdf db de df dc dp dk hw H.size) (cwV 0 hts gX5_mixWhole_X5_conflictsByPairs rfl rfl rfl (by decide +kernel) ⟨Nat.le_of_ble_eq_true rfl, Nat.le_of_ble_eq_true rfl⟩) hK hG hP hD hS hA [0, 1, 2, 3, 4] rfl rfl 5 0 rfl rfl rfl hl.1 rfl (Nat.le_of_ble_eq_true rfl) dX5_mixWhole_32 ⟨Nat.le_of_ble_eq_true rfl, Nat.le_of_ble_eq_true rfl⟩) hP hD hS hA [0, 1, 2, 3, 4] rfl (fun r7 u H locs hw hP hS => ?_)
  try dsimp only at hw
  refine lv_i2l hx hb dX5_mixWhole_35 rfl ?_
  refine kcR_l (kr_S [] ⟨hx, hb, hml, hown, hts⟩ (cn_X5_mix l G r6 r7.toInt64 hw H.size) (va_cwS 2 hts gX5_mixWhole_X5_mix rfl rfl rfl (by decide +kernel) ⟨Nat.le_of_ble_eq_true rfl, Nat.le_of_ble_eq_true rfl⟩) hK hG hP hD hS hA [] rfl rfl rfl hl.1 rfl (Nat.le_of_ble_eq_true rfl) dX5_mixWhole_36 ⟨Nat.le_of_ble_eq_true rfl, Nat.le_of_ble_eq_true rfl⟩) hP hD hS hA [] rfl (fun r8 u H locs hw hP hS => ?_)
  try dsimp only at hw
  refine lv_lstore_n (lv' := [(3, .long r8), (0, .ref qm), (1, .long a1)]) hx hb dX5_mixWhole_39 rfl hl (by decide) rfl (fun ls hl => ?_)
  refine lv_lload_n hx hb dX5_mixWhole_40 rfl (lv_at hl 0 rfl) ?_
  refine lv_aload_n hx hb dX5_mixWhole_41 rfl (lv_at hl 1 rfl) ?_
  refine kcR_i (kr_V [.long r8] ⟨hx, hb, hml, hown, hts⟩ (cn_X5_conflictsBySweep l G qm qd qs qn qk qt qr qx qdb qde qdf qro qrg db de df dc dp dk ro rg hw H.size) (cwV 0 hts gX5_mixWhole_X5_conflictsBySweep rfl rfl rfl (by decide +kernel) ⟨Nat.le_of_ble_eq_true rfl, Nat.le_of_ble_eq_true rfl⟩) hK hG hP hD hS hA [0, 1, 2, 3, 4, 31, 32, 33] rfl rfl 5 0 rfl rfl rfl hl.1 rfl (Nat.le_of_ble_eq_true rfl) dX5_mixWhole_42 ⟨Nat.le_of_ble_eq_true rfl, Nat.le_of_ble_eq_true rfl⟩) hP hD hS hA [0, 1, 2, 3, 4, 31, 32, 33] rfl (fun r9 u H locs hw hP hS => ?_)
  try dsimp only at hw
  refine lv_i2l hx hb dX5_mixWhole_45 rfl ?_
  refine kcR_l (kr_S [] ⟨hx, hb, hml, hown, hts⟩ (cn_X5_mix l G r8 r9.toInt64 hw H.size) (va_cwS 2 hts gX5_mixWhole_X5_mix rfl rfl rfl (by decide +kernel) ⟨Nat.le_of_ble_eq_true rfl, Nat.le_of_ble_eq_true rfl⟩) hK hG hP hD hS hA [] rfl rfl rfl hl.1 rfl (Nat.le_of_ble_eq_true rfl) dX5_mixWhole_46 ⟨Nat.le_of_ble_eq_true rfl, Nat.le_of_ble_eq_true rfl⟩) hP hD hS hA [] rfl (fun r10 u H locs hw hP hS => ?_)
  try dsimp only at hw
  refine lv_lstore_n (lv' := [(3, .long r10), (0, .ref qm), (1, .long a1)]) hx hb dX5_mixWhole_49 rfl hl (by decide) rfl (fun ls hl => ?_)
  refine lv_lload_n hx hb dX5_mixWhole_50 rfl (lv_at hl 0 rfl) ?_
  refine lv_aload_n hx hb dX5_mixWhole_51 rfl (lv_at hl 1 rfl) ?_
  refine kcR_i (kr_V [.long r10] ⟨hx, hb, hml, hown, hts⟩ (cn_X5_roomsBySweep l G qm qd qs qn qk qt qr qx qdb qde qdf qro qrg db de df dc dp dk ro rg hw H.size) (cwV 0 hts gX5_mixWhole_X5_roomsBySweep rfl rfl rfl (by decide +kernel) ⟨Nat.le_of_ble_eq_true rfl, Nat.le_of_ble_eq_true rfl⟩) hK hG hP hD hS hA [0, 1, 2, 3, 4, 31, 32, 33] rfl rfl 5 0 rfl rfl rfl hl.1 rfl (Nat.le_of_ble_eq_true rfl) dX5_mixWhole_52 ⟨Nat.le_of_ble_eq_true rfl, Nat.le_of_ble_eq_true rfl⟩) hP hD hS hA [0, 1, 2, 3, 4, 31, 32, 33] rfl (fun r11 u H locs hw hP hS => ?_)
  try dsimp only at hw
  refine lv_i2l hx hb dX5_mixWhole_55 rfl ?_
  refine kcR_l (kr_S [] ⟨hx, hb, hml, hown, hts⟩ (cn_X5_mix l G r10 r11.toInt64 hw H.size) (va_cwS 2 hts gX5_mixWhole_X5_mix rfl rfl rfl (by decide +kernel) ⟨Nat.le_of_ble_eq_true rfl, Nat.le_of_ble_eq_true rfl⟩) hK hG hP hD hS hA [] rfl rfl rfl hl.1 rfl (Nat.le_of_ble_eq_true rfl) dX5_mixWhole_56 ⟨Nat.le_of_ble_eq_true rfl, Nat.le_of_ble_eq_true rfl⟩) hP hD hS hA [] rfl (fun r12 u H locs hw hP hS => ?_)
  try dsimp only at hw
  refine lv_lstore_n (lv' := [(3, .long r12), (0, .ref qm), (1, .long a1)]) hx hb dX5_mixWhole_59 rfl hl (by decide) rfl (fun ls hl => ?_)
  refine lv_lload_n hx hb dX5_mixWhole_60 rfl (lv_at hl 0 rfl) ?_
  refine lv_aload_n hx hb dX5_mixWhole_61 rfl (lv_at hl 1 rfl) ?_
  refine kc_i (kr_V [.long r12] ⟨hx, hb, hml, hown, hts⟩ (cn_X5_roomsByGiving l G qm qd qs qn qk qt qr qx qdb qde qdf qro qrg db de df dc dp dk ro rg hw H.size) (cwV 0 hts gX5_mixWhole_X5_roomsByGiving rfl rfl rfl (by decide +kernel) ⟨Nat.le_of_ble_eq_true rfl, Nat.le_of_ble_eq_true rfl⟩) hK hG hP hD hS hA [0, 1, 2, 3, 4, 31, 32, 33] rfl rfl 5 0 rfl rfl rfl hl.1 rfl (Nat.le_of_ble_eq_true rfl) dX5_mixWhole_62 ⟨Nat.le_of_ble_eq_true rfl, Nat.le_of_ble_eq_true rfl⟩) hP hD hS hA [0, 1, 2, 3, 4, 31, 32, 33] [5, 6, 7, 8, 9, 10, 11, 12, 13, 14, 15, 16, 17, 18, 19, 20, 21, 22, 23, 24, 25, 26, 27, 28, 29, 30, 34, 35, 36, 37] rfl rfl rfl (by decide) (fun r13 u H locs hw hP hD hS => ?_)
  obtain ⟨ro_14, rg_15⟩ := u
  try dsimp only at hw
  have hP := hP.sub (ws' := (w0_X5_mixWhole G qm qd qs qn qk qt qr qx qdb qde qdf qsa qs0 qs0b qs0e qs0f qs1 qs1b qs1e qs1f qs2 qs2b qs2e qs2f qs3 qs3b qs3e qs3f qs4 qs4b qs4e qs4f qs5 qs5b qs5e qs5f qro qrg qxo qxc qxt db de df dc dp dk so sn sb se sf sc sp sk ro_14 rg_15 ho hc ht)) [30, 31, 32, 33, 34, 0, 1, 2, 3, 4, 5, 6, 7, 8, 9, 10, 11, 12, 13, 14, 15, 16, 17, 18, 19, 20, 21, 22, 23, 24, 25, 35, 36, 37, 26, 27, 28, 29] rfl
  have hD := hD.sub (ws' := (w0_X5_mixWhole G qm qd qs qn qk qt qr qx qdb qde qdf qsa qs0 qs0b qs0e qs0f qs1 qs1b qs1e qs1f qs2 qs2b qs2e qs2f qs3 qs3b qs3e qs3f qs4 qs4b qs4e qs4f qs5 qs5b qs5e qs5f qro qrg qxo qxc qxt db de df dc dp dk so sn sb se sf sc sp sk ro_14 rg_15 ho hc ht)) [30, 31, 32, 33, 34, 0, 1, 2, 3, 4, 5, 6, 7, 8, 9, 10, 11, 12, 13, 14, 15, 16, 17, 18, 19, 20, 21, 22, 23, 24, 25, 35, 36, 37, 26, 27, 28, 29] rfl rfl
  refine lv_i2l hx hb dX5_mixWhole_65 rfl ?_
  refine kcR_l (kr_S [] ⟨hx, hb, hml, hown, hts⟩ (cn_X5_mix l G r12 r13.toInt64 hw H.size) (va_cwS 2 hts gX5_mixWhole_X5_mix rfl rfl rfl (by decide +kernel) ⟨Nat.le_of_ble_eq_true rfl, Nat.le_of_ble_eq_true rfl⟩) hK hG hP hD hS hA [] rfl rfl rfl hl.1 rfl (Nat.le_of_ble_eq_true rfl) dX5_mixWhole_66 ⟨Nat.le_of_ble_eq_true rfl, Nat.le_of_ble_eq_true rfl⟩) hP hD hS hA [] rfl (fun r16 u H locs hw hP hS => ?_)
  try dsimp only at hw
  refine lv_lstore_n (lv' := [(3, .long r16), (0, .ref qm), (1, .long a1)]) hx hb dX5_mixWhole_69 rfl hl (by decide) rfl (fun ls hl => ?_)
  refine lv_lload_n hx hb dX5_mixWhole_70 rfl (lv_at hl 0 rfl) ?_
  refine lv_aload_n hx hb dX5_mixWhole_71 rfl (lv_at hl 1 rfl) ?_
  refine kc_i (kr_V [.long r16] ⟨hx, hb, hml, hown, hts⟩ (cn_X5_bestByTrying l G qm qd qs qn qk qt qr qx qdb qde qdf qxo qxc qxt db de df dc dp dk ho hc ht hw H.size) (cwV 0 hts gX5_mixWhole_X5_bestByTrying rfl rfl rfl (by decide +kernel) ⟨Nat.le_of_ble_eq_true rfl, Nat.le_of_ble_eq_true rfl⟩) hK hG hP hD hS hA [0, 1, 2, 3, 4, 34, 35, 36, 37] rfl rfl 5 0 rfl rfl rfl hl.1 rfl (Nat.le_of_ble_eq_true rfl) dX5_mixWhole_72 ⟨Nat.le_of_ble_eq_true rfl, Nat.le_of_ble_eq_true rfl⟩) hP hD hS hA [0, 1, 2, 3, 4, 34, 35, 36, 37] [5, 6, 7, 8, 9, 10, 11, 12, 13, 14, 15, 16, 17, 18, 19, 20, 21, 22, 23, 24, 25, 26, 27, 28, 29, 30, 31, 32, 33] rfl rfl rfl (by decide) (fun r17 u H locs hw hP hD hS => ?_)
  obtain ⟨hc_18, rfl⟩ : ∃ z, z = u := ⟨_, rfl⟩
  try dsimp only at hw
  have hP := hP.sub (ws' := (w0_X5_mixWhole G qm qd qs qn qk qt qr qx qdb qde qdf qsa qs0 qs0b qs0e qs0f qs1 qs1b qs1e qs1f qs2 qs2b qs2e qs2f qs3 qs3b qs3e qs3f qs4 qs4b qs4e qs4f qs5 qs5b qs5e qs5f qro qrg qxo qxc qxt db de df dc dp dk so sn sb se sf sc sp sk ro_14 rg_15 ho hc_18 ht)) [29, 30, 31, 32, 33, 0, 1, 2, 3, 4, 5, 6, 7, 8, 9, 10, 11, 12, 13, 14, 15, 16, 17, 18, 19, 20, 21, 22, 23, 24, 25, 26, 27, 28, 34, 35, 36, 37] rfl
  have hD := hD.sub (ws' := (w0_X5_mixWhole G qm qd qs qn qk qt qr qx qdb qde qdf qsa qs0 qs0b qs0e qs0f qs1 qs1b qs1e qs1f qs2 qs2b qs2e qs2f qs3 qs3b qs3e qs3f qs4 qs4b qs4e qs4f qs5 qs5b qs5e qs5f qro qrg qxo qxc qxt db de df dc dp dk so sn sb se sf sc sp sk ro_14 rg_15 ho hc_18 ht)) [29, 30, 31, 32, 33, 0, 1, 2, 3, 4, 5, 6, 7, 8, 9, 10, 11, 12, 13, 14, 15, 16, 17, 18, 19, 20, 21, 22, 23, 24, 25, 26, 27, 28, 34, 35, 36, 37] rfl rfl
  refine lv_i2l hx hb dX5_mixWhole_75 rfl ?_
  refine kcR_l (kr_S [] ⟨hx, hb, hml, hown, hts⟩ (cn_X5_mix l G r16 r17.toInt64 hw H.size) (va_cwS 2 hts gX5_mixWhole_X5_mix rfl rfl rfl (by decide +kernel) ⟨Nat.le_of_ble_eq_true rfl, Nat.le_of_ble_eq_true rfl⟩) hK hG hP hD hS hA [] rfl rfl rfl hl.1 rfl (Nat.le_of_ble_eq_true rfl) dX5_mixWhole_76 ⟨Nat.le_of_ble_eq_true rfl, Nat.le_of_ble_eq_true rfl⟩) hP hD hS hA [] rfl (fun r19 u H locs hw hP hS => ?_)
  try dsimp only at hw
  refine lv_lstore_n (lv' := [(3, .long r19), (0, .ref qm), (1, .long a1)]) hx hb dX5_mixWhole_79 rfl hl (by decide) rfl (fun ls hl => ?_)
  refine lv_lload_n hx hb dX5_mixWhole_80 rfl (lv_at hl 0 rfl) ?_
  refine lv_aload_n hx hb dX5_mixWhole_81 rfl (lv_at hl 1 rfl) ?_
  refine kc_i (kr_V [.long r19] ⟨hx, hb, hml, hown, hts⟩ (cn_X5_bestByTable l G qm qd qs qn qk qt qr qx qdb qde qdf qxo qxc qxt db de df dc dp dk ho hc_18 ht hw H.size) (cwV 0 hts gX5_mixWhole_X5_bestByTable rfl rfl rfl (by decide +kernel) ⟨Nat.le_of_ble_eq_true rfl, Nat.le_of_ble_eq_true rfl⟩) hK hG hP hD hS hA [0, 1, 2, 3, 4, 34, 35, 36, 37] rfl rfl 5 0 rfl rfl rfl hl.1 rfl (Nat.le_of_ble_eq_true rfl) dX5_mixWhole_82 ⟨Nat.le_of_ble_eq_true rfl, Nat.le_of_ble_eq_true rfl⟩) hP hD hS hA [0, 1, 2, 3, 4, 34, 35, 36, 37] [5, 6, 7, 8, 9, 10, 11, 12, 13, 14, 15, 16, 17, 18, 19, 20, 21, 22, 23, 24, 25, 26, 27, 28, 29, 30, 31, 32, 33] rfl rfl rfl (by decide) (fun r20 u H locs hw hP hD hS => ?_)
  obtain ⟨ho_21, ht_22⟩ := u
  try dsimp only at hw
  have hP := hP.sub (ws' := (w0_X5_mixWhole G qm qd qs qn qk qt qr qx qdb qde qdf qsa qs0 qs0b qs0e qs0f qs1 qs1b qs1e qs1f qs2 qs2b qs2e qs2f qs3 qs3b qs3e qs3f qs4 qs4b qs4e qs4f qs5 qs5b qs5e qs5f qro qrg qxo qxc qxt db de df dc dp dk so sn sb se sf sc sp sk ro_14 rg_15 ho_21 hc_18 ht_22)) [29, 30, 31, 32, 33, 0, 1, 2, 3, 4, 5, 6, 7, 8, 9, 10, 11, 12, 13, 14, 15, 16, 17, 18, 19, 20, 21, 22, 23, 24, 25, 26, 27, 28, 34, 35, 36, 37] rfl
  have hD := hD.sub (ws' := (w0_X5_mixWhole G qm qd qs qn qk qt qr qx qdb qde qdf qsa qs0 qs0b qs0e qs0f qs1 qs1b qs1e qs1f qs2 qs2b qs2e qs2f qs3 qs3b qs3e qs3f qs4 qs4b qs4e qs4f qs5 qs5b qs5e qs5f qro qrg qxo qxc qxt db de df dc dp dk so sn sb se sf sc sp sk ro_14 rg_15 ho_21 hc_18 ht_22)) [29, 30, 31, 32, 33, 0, 1, 2, 3, 4, 5, 6, 7, 8, 9, 10, 11, 12, 13, 14, 15, 16, 17, 18, 19, 20, 21, 22, 23, 24, 25, 26, 27, 28, 34, 35, 36, 37] rfl rfl
  refine lv_i2l hx hb dX5_mixWhole_85 rfl ?_
  refine kcR_l (kr_S [] ⟨hx, hb, hml, hown, hts⟩ (cn_X5_mix l G r19 r20.toInt64 hw H.size) (va_cwS 2 hts gX5_mixWhole_X5_mix rfl rfl rfl (by decide +kernel) ⟨Nat.le_of_ble_eq_true rfl, Nat.le_of_ble_eq_true rfl⟩) hK hG hP hD hS hA [] rfl rfl rfl hl.1 rfl (Nat.le_of_ble_eq_true rfl) dX5_mixWhole_86 ⟨Nat.le_of_ble_eq_true rfl, Nat.le_of_ble_eq_true rfl⟩) hP hD hS hA [] rfl (fun r23 u H locs hw hP hS => ?_)
  try dsimp only at hw
  refine lv_lstore_n (lv' := [(3, .long r23), (0, .ref qm), (1, .long a1)]) hx hb dX5_mixWhole_89 rfl hl (by decide) rfl (fun ls hl => ?_)
  refine lv_lload_n hx hb dX5_mixWhole_90 rfl (lv_at hl 0 rfl) ?_
  refine lv_aload_n hx hb dX5_mixWhole_91 rfl (lv_at hl 1 rfl) ?_
  refine kc_i (kr_V [.long r23] ⟨hx, hb, hml, hown, hts⟩ (cn_X5_bestChoice l G qm qd qs qn qk qt qr qx qdb qde qdf qxo qxc qxt db de df dc dp dk ho_21 hc_18 ht_22 hw H.size) (cwV 0 hts gX5_mixWhole_X5_bestChoice rfl rfl rfl (by decide +kernel) ⟨Nat.le_of_ble_eq_true rfl, Nat.le_of_ble_eq_true rfl⟩) hK hG hP hD hS hA [0, 1, 2, 3, 4, 34, 35, 36, 37] rfl rfl 5 0 rfl rfl rfl hl.1 rfl (Nat.le_of_ble_eq_true rfl) dX5_mixWhole_92 ⟨Nat.le_of_ble_eq_true rfl, Nat.le_of_ble_eq_true rfl⟩) hP hD hS hA [0, 1, 2, 3, 4, 34, 35, 36, 37] [5, 6, 7, 8, 9, 10, 11, 12, 13, 14, 15, 16, 17, 18, 19, 20, 21, 22, 23, 24, 25, 26, 27, 28, 29, 30, 31, 32, 33] rfl rfl rfl (by decide) (fun r24 u H locs hw hP hD hS => ?_)
  obtain ⟨ho_25, ht_26⟩ := u
  try dsimp only at hw
  have hP := hP.sub (ws' := (w0_X5_mixWhole G qm qd qs qn qk qt qr qx qdb qde qdf qsa qs0 qs0b qs0e qs0f qs1 qs1b qs1e qs1f qs2 qs2b qs2e qs2f qs3 qs3b qs3e qs3f qs4 qs4b qs4e qs4f qs5 qs5b qs5e qs5f qro qrg qxo qxc qxt db de df dc dp dk so sn sb se sf sc sp sk ro_14 rg_15 ho_25 hc_18 ht_26)) [29, 30, 31, 32, 33, 0, 1, 2, 3, 4, 5, 6, 7, 8, 9, 10, 11, 12, 13, 14, 15, 16, 17, 18, 19, 20, 21, 22, 23, 24, 25, 26, 27, 28, 34, 35, 36, 37] rfl
  have hD := hD.sub (ws' := (w0_X5_mixWhole G qm qd qs qn qk qt qr qx qdb qde qdf qsa qs0 qs0b qs0e qs0f qs1 qs1b qs1e qs1f qs2 qs2b qs2e qs2f qs3 qs3b qs3e qs3f qs4 qs4b qs4e qs4f qs5 qs5b qs5e qs5f qro qrg qxo qxc qxt db de df dc dp dk so sn sb se sf sc sp sk ro_14 rg_15 ho_25 hc_18 ht_26)) [29, 30, 31, 32, 33, 0, 1, 2, 3, 4, 5, 6, 7, 8, 9, 10, 11, 12, 13, 14, 15, 16, 17, 18, 19, 20, 21, 22, 23, 24, 25, 26, 27, 28, 34, 35, 36, 37] rfl rfl
  refine lv_i2l hx hb dX5_mixWhole_95 rfl ?_
  refine kcR_l (kr_S [] ⟨hx, hb, hml, hown, hts⟩ (cn_X5_mix l G r23 r24.toInt64 hw H.size) (va_cwS 2 hts gX5_mixWhole_X5_mix rfl rfl rfl (by decide +kernel) ⟨Nat.le_of_ble_eq_true rfl, Nat.le_of_ble_eq_true rfl⟩) hK hG hP hD hS hA [] rfl rfl rfl hl.1 rfl (Nat.le_of_ble_eq_true rfl) dX5_mixWhole_96 ⟨Nat.le_of_ble_eq_true rfl, Nat.le_of_ble_eq_true rfl⟩) hP hD hS hA [] rfl (fun r27 u H locs hw hP hS => ?_)
  try dsimp only at hw
  refine lv_lstore_n (lv' := [(3, .long r27), (0, .ref qm), (1, .long a1)]) hx hb dX5_mixWhole_99 rfl hl (by decide) rfl (fun ls hl => ?_)
  refine lv_lload_n hx hb dX5_mixWhole_100 rfl (lv_at hl 0 rfl) ?_
  refine lv_aload_n hx hb dX5_mixWhole_101 rfl (lv_at hl 1 rfl) ?_
  refine kc_i (kr_V [.long r27] ⟨hx, hb, hml, hown, hts⟩ (cn_X5_mostRehearsals l G qm qd qs qn qk qt qr qx qdb qde qdf qxo qxc qxt db de df dc dp dk ho_25 hc_18 ht_26 hw H.size) (cwV 0 hts gX5_mixWhole_X5_mostRehearsals rfl rfl rfl (by decide +kernel) ⟨Nat.le_of_ble_eq_true rfl, Nat.le_of_ble_eq_true rfl⟩) hK hG hP hD hS hA [0, 1, 2, 3, 4, 34, 35, 36, 37] rfl rfl 5 0 rfl rfl rfl hl.1 rfl (Nat.le_of_ble_eq_true rfl) dX5_mixWhole_102 ⟨Nat.le_of_ble_eq_true rfl, Nat.le_of_ble_eq_true rfl⟩) hP hD hS hA [0, 1, 2, 3, 4, 34, 35, 36, 37] [5, 6, 7, 8, 9, 10, 11, 12, 13, 14, 15, 16, 17, 18, 19, 20, 21, 22, 23, 24, 25, 26, 27, 28, 29, 30, 31, 32, 33] rfl rfl rfl (by decide) (fun r28 u H locs hw hP hD hS => ?_)
  obtain ⟨ho_29, rfl⟩ : ∃ z, z = u := ⟨_, rfl⟩
  try dsimp only at hw
  have hP := hP.sub (ws' := (w0_X5_mixWhole G qm qd qs qn qk qt qr qx qdb qde qdf qsa qs0 qs0b qs0e qs0f qs1 qs1b qs1e qs1f qs2 qs2b qs2e qs2f qs3 qs3b qs3e qs3f qs4 qs4b qs4e qs4f qs5 qs5b qs5e qs5f qro qrg qxo qxc qxt db de df dc dp dk so sn sb se sf sc sp sk ro_14 rg_15 ho_29 hc_18 ht_26)) [29, 30, 31, 32, 33, 0, 1, 2, 3, 4, 5, 6, 7, 8, 9, 10, 11, 12, 13, 14, 15, 16, 17, 18, 19, 20, 21, 22, 23, 24, 25, 26, 27, 28, 34, 35, 36, 37] rfl
  have hD := hD.sub (ws' := (w0_X5_mixWhole G qm qd qs qn qk qt qr qx qdb qde qdf qsa qs0 qs0b qs0e qs0f qs1 qs1b qs1e qs1f qs2 qs2b qs2e qs2f qs3 qs3b qs3e qs3f qs4 qs4b qs4e qs4f qs5 qs5b qs5e qs5f qro qrg qxo qxc qxt db de df dc dp dk so sn sb se sf sc sp sk ro_14 rg_15 ho_29 hc_18 ht_26)) [29, 30, 31, 32, 33, 0, 1, 2, 3, 4, 5, 6, 7, 8, 9, 10, 11, 12, 13, 14, 15, 16, 17, 18, 19, 20, 21, 22, 23, 24, 25, 26, 27, 28, 34, 35, 36, 37] rfl rfl
  refine lv_i2l hx hb dX5_mixWhole_105 rfl ?_
  refine kcR_l (kr_S [] ⟨hx, hb, hml, hown, hts⟩ (cn_X5_mix l G r27 r28.toInt64 hw H.size) (va_cwS 2 hts gX5_mixWhole_X5_mix rfl rfl rfl (by decide +kernel) ⟨Nat.le_of_ble_eq_true rfl, Nat.le_of_ble_eq_true rfl⟩) hK hG hP hD hS hA [] rfl rfl rfl hl.1 rfl (Nat.le_of_ble_eq_true rfl) dX5_mixWhole_106 ⟨Nat.le_of_ble_eq_true rfl, Nat.le_of_ble_eq_true rfl⟩) hP hD hS hA [] rfl (fun r30 u H locs hw hP hS => ?_)
  try dsimp only at hw
  refine lv_lstore_n (lv' := [(3, .long r30), (0, .ref qm), (1, .long a1)]) hx hb dX5_mixWhole_109 rfl hl (by decide) rfl (fun ls hl => ?_)
  refine lv_lload_n hx hb dX5_mixWhole_110 rfl (lv_at hl 0 rfl) ?_
  refine lv_aload_n hx hb dX5_mixWhole_111 rfl (lv_at hl 1 rfl) ?_
  refine kcR_i (kr_V [.long r30] ⟨hx, hb, hml, hown, hts⟩ (cn_X5_savedStates l G qm qd qs qn qk qt qr qx qsa qs0 qs0b qs0e qs0f qs1 qs1b qs1e qs1f qs2 qs2b qs2e qs2f qs3 qs3b qs3e qs3f qs4 qs4b qs4e qs4f qs5 qs5b qs5e qs5f so sn sb se sf sc sp sk hw H.size) (cwV 0 hts gX5_mixWhole_X5_savedStates rfl rfl rfl (by decide +kernel) ⟨Nat.le_of_ble_eq_true rfl, Nat.le_of_ble_eq_true rfl⟩) hK hG hP hD hS hA [0, 5, 6, 7, 8, 9, 10, 11, 12, 13, 14, 15, 16, 17, 18, 19, 20, 21, 22, 23, 24, 25, 26, 27, 28, 29, 30] rfl rfl 5 0 rfl rfl rfl hl.1 rfl (Nat.le_of_ble_eq_true rfl) dX5_mixWhole_112 ⟨Nat.le_of_ble_eq_true rfl, Nat.le_of_ble_eq_true rfl⟩) hP hD hS hA [0, 5, 6, 7, 8, 9, 10, 11, 12, 13, 14, 15, 16, 17, 18, 19, 20, 21, 22, 23, 24, 25, 26, 27, 28, 29, 30] rfl (fun r31 u H locs hw hP hS => ?_)
  try dsimp only at hw
  refine lv_i2l hx hb dX5_mixWhole_115 rfl ?_
  refine kcR_l (kr_S [] ⟨hx, hb, hml, hown, hts⟩ (cn_X5_mix l G r30 r31.toInt64 hw H.size) (va_cwS 2 hts gX5_mixWhole_X5_mix rfl rfl rfl (by decide +kernel) ⟨Nat.le_of_ble_eq_true rfl, Nat.le_of_ble_eq_true rfl⟩) hK hG hP hD hS hA [] rfl rfl rfl hl.1 rfl (Nat.le_of_ble_eq_true rfl) dX5_mixWhole_116 ⟨Nat.le_of_ble_eq_true rfl, Nat.le_of_ble_eq_true rfl⟩) hP hD hS hA [] rfl (fun r32 u H locs hw hP hS => ?_)
  try dsimp only at hw
  refine lv_lstore_n (lv' := [(3, .long r32), (0, .ref qm), (1, .long a1)]) hx hb dX5_mixWhole_119 rfl hl (by decide) rfl (fun ls hl => ?_)
  refine lv_lload_n hx hb dX5_mixWhole_120 rfl (lv_at hl 0 rfl) ?_
  refine lv_aload_n hx hb dX5_mixWhole_121 rfl (lv_at hl 1 rfl) ?_
  refine kcR_d (kr_V [.long r32] ⟨hx, hb, hml, hown, hts⟩ (cn_X5_bookedShare l G qm qd qs qn qk qt qr qx qdb qde qdf db de df dc dp dk hw H.size) (cwV 0 hts gX5_mixWhole_X5_bookedShare rfl rfl rfl (by decide +kernel) ⟨Nat.le_of_ble_eq_true rfl, Nat.le_of_ble_eq_true rfl⟩) hK hG hP hD hS hA [0, 1, 2, 3, 4] rfl rfl 5 0 rfl rfl rfl hl.1 rfl (Nat.le_of_ble_eq_true rfl) dX5_mixWhole_122 ⟨Nat.le_of_ble_eq_true rfl, Nat.le_of_ble_eq_true rfl⟩) hP hD hS hA [0, 1, 2, 3, 4] rfl (fun r33 u H locs hw hP hS => ?_)
  try dsimp only at hw
  refine kcR_l (kr_S [.long r32] ⟨hx, hb, hml, hown, hts⟩ (cn_X5_doubleBits l G r33 hw H.size) (va_cwS 1 hts gX5_mixWhole_X5_doubleBits rfl rfl rfl (by decide +kernel) ⟨Nat.le_of_ble_eq_true rfl, Nat.le_of_ble_eq_true rfl⟩) hK hG hP hD hS hA [] rfl rfl rfl hl.1 rfl (Nat.le_of_ble_eq_true rfl) dX5_mixWhole_125 ⟨Nat.le_of_ble_eq_true rfl, Nat.le_of_ble_eq_true rfl⟩) hP hD hS hA [] rfl (fun r34 u H locs hw hP hS => ?_)
  try dsimp only at hw
  refine kcR_l (kr_S [] ⟨hx, hb, hml, hown, hts⟩ (cn_X5_mix l G r32 r34 hw H.size) (va_cwS 2 hts gX5_mixWhole_X5_mix rfl rfl rfl (by decide +kernel) ⟨Nat.le_of_ble_eq_true rfl, Nat.le_of_ble_eq_true rfl⟩) hK hG hP hD hS hA [] rfl rfl rfl hl.1 rfl (Nat.le_of_ble_eq_true rfl) dX5_mixWhole_128 ⟨Nat.le_of_ble_eq_true rfl, Nat.le_of_ble_eq_true rfl⟩) hP hD hS hA [] rfl (fun r35 u H locs hw hP hS => ?_)
  try dsimp only at hw
  exact fin_l (ro_14, rg_15, ho_29, hc_18, ht_26) hx hb hr hlocks hK hS hP hD hw dX5_mixWhole_131

set_option maxHeartbeats 8000000 in
set_option maxRecDepth 100000 in
theorem cn_X5_requireRehearsal (l : Launch) (G : mG) (qm : Nat) (qd : Nat) (qs : Nat) (qn : Nat) (qk : Nat) (qt : Nat) (qr : Nat) (qx : Nat) (qdb : Nat) (qde : Nat) (qdf : Nat) (db : Nat → Int32) (de : Nat → Int32) (df : Nat → Int32) (dc : Int32) (dp : Int32) (dk : Int32) (a1 : Int32) {Q : Prop} (hw : wn_X5_requireRehearsal dc a1 Q) (sz : Nat) :
    Met l yX5_requireRehearsal wsX5_requireRehearsal ({ frames := 0, cells := 0, slots := 0, locals := 0 } : Room) (va_Pc [.ref qm, .int a1] (mPre G (w0_X5_requireRehearsal G qm qd qs qn qk qt qr qx qdb qde qdf db de df dc dp dk) sz)) (va_Qv (fun (u : Unit) => Q) (mBk G (va_A (w0_X5_requireRehearsal G qm qd qs qn qk qt qr qx qdb qde qdf db de df dc dp dk) sz) (fun (u : Unit) => (w0_X5_requireRehearsal G qm qd qs qn qk qt qr qx qdb qde qdf db de df dc dp dk))) (va_A (w0_X5_requireRehearsal G qm qd qs qn qk qt qr qx qdb qde qdf db de df dc dp dk) sz)) 0 0 (va_A (w0_X5_requireRehearsal G qm qd qs qn qk qt qr qx qdb qde qdf db de df dc dp dk) sz) := by
  refine ms_v (cc := cX5_requireRehearsal) (maxL := 2) (ret := none) (post := (fun (u : Unit) => Q)) (w1 := (fun (u : Unit) => (w0_X5_requireRehearsal G qm qd qs qn qk qt qr qx qdb qde qdf db de df dc dp dk))) (by decide) rfl (Nat.le_of_ble_eq_true rfl) ?_ sz
  intro p e s m below meth c A ls H locs hx hb hr hml hown hts hlocks hK hG hP hD hS hA hl
  have hown : s.vm.findClass RX5 = some m.cls := hown
  have hl : lv_has ls 2 [(0, .ref qm), (1, .int a1)] := hl
  have J15 : ∀ (x1 : Int32) (H : Heap) (locs : List Loc) (ls : Array Slot), va_P (gD G) vwCl (w0_X5_requireRehearsal G qm qd qs qn qk qt qr qx qdb qde qdf db de df dc dp dk) H → va_D A (w0_X5_requireRehearsal G qm qd qs qn qk qt qr qx qdb qde qdf db de df dc dp dk) → va_S A s.heap H locs → lv_has ls 2 [(0, .ref qm), (1, .int x1)] → wj_n_X5_requireRehearsal_15 dc Q x1 → W p l e ({ frames := 0, cells := 0, slots := 0, locals := 0 } : Room) s m ([.ref qm, .int a1] : List Value).toArray below meth c H locs 0 0 (MQ below (va_Qv (fun (u : Unit) => Q) (mBk G A (fun (u : Unit) => (w0_X5_requireRehearsal G qm qd qs qn qk qt qr qx qdb qde qdf db de df dc dp dk))) A) ([.ref qm, .int a1] : List Value).toArray s 0 0 A) (F0 m 15 ls []) := by
    intro x1 H locs ls hP hD hS hl hw
    unfold wj_n_X5_requireRehearsal_15 at hw
    exact False.elim hw
  unfold wn_X5_requireRehearsal at hw
  refine lv_iload_n hx hb dX5_requireRehearsal_0 rfl (lv_at hl 1 rfl) ?_
  refine lv_if_lt (tgt := 15) hx hb dX5_requireRehearsal_1 (by decide) (fun cd1 => ?_) (fun cd1 => ?_)
  · have hw := hw.1 cd1
    exact J15 a1 _ _ _ hP hD hS hl hw
  · have hw := hw.2 cd1
    refine lv_iload_n hx hb dX5_requireRehearsal_4 rfl (lv_at hl 1 rfl) ?_
    refine lv_aload_n hx hb dX5_requireRehearsal_5 rfl (lv_at hl 0 rfl) ?_
    refine va_get (D := gD G) (ci := 5) (v := .ref qd) (C := RX5) (T := TX5) (N := 7) hx hb hts k_X5_requireRehearsal_inX5 hown hK hP 0 rfl rfl 0 (by decide) (hts _ k_X5_requireRehearsal_f10) (fun _ h9 => h9) rfl dX5_requireRehearsal_6 ?_
    refine va_get (D := gD G) (ci := 1) (v := .int dc) (C := RX1) (T := TX1) (N := 6) hx hb hts k_X5_requireRehearsal_inX1 hown hK hP 1 rfl rfl 3 (by decide) (hts _ k_X5_requireRehearsal_f71) (fun _ h9 => h9) rfl dX5_requireRehearsal_9 ?_
    refine lv_icmp_lt (tgt := 26) hx hb dX5_requireRehearsal_12 (by decide) (fun cd2 => ?_) (fun cd2 => ?_)
    · have hw := hw.1 cd2
      exact fin_v () hx hb hr hlocks hK hS hP hD hw dX5_requireRehearsal_26
    · have hw := hw.2 cd2
      exact J15 a1 _ _ _ hP hD hS hl hw

set_option maxHeartbeats 8000000 in
set_option maxRecDepth 100000 in
theorem cn_X5_beginOf (l : Launch) (G : mG) (qm : Nat) (qd : Nat) (qs : Nat) (qn : Nat) (qk : Nat) (qt : Nat) (qr : Nat) (qx : Nat) (qdb : Nat) (qde : Nat) (qdf : Nat) (db : Nat → Int32) (de : Nat → Int32) (df : Nat → Int32) (dc : Int32) (dp : Int32) (dk : Int32) (a1 : Int32) {Q : Int32 → Prop} (hw : wn_X5_beginOf db dc a1 Q) (sz : Nat) :
    Met l yX5_beginOf wsX5_beginOf ({ frames := 1, cells := 0, slots := 0, locals := 21 } : Room) (va_Pc [.ref qm, .int a1] (mPre G (w0_X5_beginOf G qm qd qs qn qk qt qr qx qdb qde qdf db de df dc dp dk) sz)) (va_Qi (fun (r : Int32) (u : Unit) => Q r) (mBk G (va_A (w0_X5_beginOf G qm qd qs qn qk qt qr qx qdb qde qdf db de df dc dp dk) sz) (fun (u : Unit) => (w0_X5_beginOf G qm qd qs qn qk qt qr qx qdb qde qdf db de df dc dp dk))) (va_A (w0_X5_beginOf G qm qd qs qn qk qt qr qx qdb qde qdf db de df dc dp dk) sz)) 0 0 (va_A (w0_X5_beginOf G qm qd qs qn qk qt qr qx qdb qde qdf db de df dc dp dk) sz) := by
  refine ms_i (cc := cX5_beginOf) (maxL := 2) (ret := some .int) (post := (fun (r : Int32) (u : Unit) => Q r)) (w1 := (fun (u : Unit) => (w0_X5_beginOf G qm qd qs qn qk qt qr qx qdb qde qdf db de df dc dp dk))) (by decide) rfl (Nat.le_of_ble_eq_true rfl) ?_ sz
  intro p e s m below meth c A ls H locs hx hb hr hml hown hts hlocks hK hG hP hD hS hA hl
  have hown : s.vm.findClass RX5 = some m.cls := hown
  have hl : lv_has ls 2 [(0, .ref qm), (1, .int a1)] := hl
  unfold wn_X5_beginOf at hw
  refine lv_aload_n hx hb dX5_beginOf_0 rfl (lv_at hl 0 rfl) ?_
  refine lv_iload_n hx hb dX5_beginOf_1 rfl (lv_at hl 1 rfl) ?_
  refine kcR_v (kr_V [] ⟨hx, hb, hml, hown, hts⟩ (cn_X5_requireRehearsal l G qm qd qs qn qk qt qr qx qdb qde qdf db de df dc dp dk a1 hw H.size) (cwV 1 hts gX5_beginOf_X5_requireRehearsal rfl rfl rfl (by decide +kernel) ⟨Nat.le_of_ble_eq_true rfl, Nat.le_of_ble_eq_true rfl⟩) hK hG hP hD hS hA [0, 1, 2, 3, 4] rfl rfl 5 0 rfl rfl rfl hl.1 rfl (Nat.le_of_ble_eq_true rfl) dX5_beginOf_2 ⟨Nat.le_of_ble_eq_true rfl, Nat.le_of_ble_eq_true rfl⟩) hP hD hS hA [0, 1, 2, 3, 4] rfl (fun u H locs hw hP hS => ?_)
  try dsimp only at hw
  refine lv_aload_n hx hb dX5_beginOf_5 rfl (lv_at hl 0 rfl) ?_
  refine va_get (D := gD G) (ci := 5) (v := .ref qd) (C := RX5) (T := TX5) (N := 7) hx hb hts k_X5_beginOf_inX5 hown hK hP 0 rfl rfl 0 (by decide) (hts _ k_X5_beginOf_f10) (fun _ h9 => h9) rfl dX5_beginOf_6 ?_
  refine va_get (D := gD G) (ci := 1) (v := .ref qdb) (C := RX1) (T := TX1) (N := 6) hx hb hts k_X5_beginOf_inX1 hown hK hP 1 rfl rfl 0 (by decide) (hts _ k_X5_beginOf_f104) (fun _ h9 => h9) rfl dX5_beginOf_9 ?_
  refine lv_iload_n hx hb dX5_beginOf_12 rfl (lv_at hl 1 rfl) ?_
  obtain ⟨h1, hw⟩ := hw
  refine va_iald hx hb hK hP 2 0 rfl rfl h1 dX5_beginOf_13 ?_
  exact fin_i () hx hb hr hlocks hK hS hP hD hw dX5_beginOf_14

set_option maxHeartbeats 8000000 in
set_option maxRecDepth 100000 in
theorem cn_X5_endOf (l : Launch) (G : mG) (qm : Nat) (qd : Nat) (qs : Nat) (qn : Nat) (qk : Nat) (qt : Nat) (qr : Nat) (qx : Nat) (qdb : Nat) (qde : Nat) (qdf : Nat) (db : Nat → Int32) (de : Nat → Int32) (df : Nat → Int32) (dc : Int32) (dp : Int32) (dk : Int32) (a1 : Int32) {Q : Int32 → Prop} (hw : wn_X5_endOf de dc a1 Q) (sz : Nat) :
    Met l yX5_endOf wsX5_endOf ({ frames := 1, cells := 0, slots := 0, locals := 21 } : Room) (va_Pc [.ref qm, .int a1] (mPre G (w0_X5_endOf G qm qd qs qn qk qt qr qx qdb qde qdf db de df dc dp dk) sz)) (va_Qi (fun (r : Int32) (u : Unit) => Q r) (mBk G (va_A (w0_X5_endOf G qm qd qs qn qk qt qr qx qdb qde qdf db de df dc dp dk) sz) (fun (u : Unit) => (w0_X5_endOf G qm qd qs qn qk qt qr qx qdb qde qdf db de df dc dp dk))) (va_A (w0_X5_endOf G qm qd qs qn qk qt qr qx qdb qde qdf db de df dc dp dk) sz)) 0 0 (va_A (w0_X5_endOf G qm qd qs qn qk qt qr qx qdb qde qdf db de df dc dp dk) sz) := by
  refine ms_i (cc := cX5_endOf) (maxL := 2) (ret := some .int) (post := (fun (r : Int32) (u : Unit) => Q r)) (w1 := (fun (u : Unit) => (w0_X5_endOf G qm qd qs qn qk qt qr qx qdb qde qdf db de df dc dp dk))) (by decide) rfl (Nat.le_of_ble_eq_true rfl) ?_ sz
  intro p e s m below meth c A ls H locs hx hb hr hml hown hts hlocks hK hG hP hD hS hA hl
  have hown : s.vm.findClass RX5 = some m.cls := hown
  have hl : lv_has ls 2 [(0, .ref qm), (1, .int a1)] := hl
  unfold wn_X5_endOf at hw
  refine lv_aload_n hx hb dX5_endOf_0 rfl (lv_at hl 0 rfl) ?_
  refine lv_iload_n hx hb dX5_endOf_1 rfl (lv_at hl 1 rfl) ?_
  refine kcR_v (kr_V [] ⟨hx, hb, hml, hown, hts⟩ (cn_X5_requireRehearsal l G qm qd qs qn qk qt qr qx qdb qde qdf db de df dc dp dk a1 hw H.size) (cwV 1 hts gX5_endOf_X5_requireRehearsal rfl rfl rfl (by decide +kernel) ⟨Nat.le_of_ble_eq_true rfl, Nat.le_of_ble_eq_true rfl⟩) hK hG hP hD hS hA [0, 1, 2, 3, 4] rfl rfl 5 0 rfl rfl rfl hl.1 rfl (Nat.le_of_ble_eq_true rfl) dX5_endOf_2 ⟨Nat.le_of_ble_eq_true rfl, Nat.le_of_ble_eq_true rfl⟩) hP hD hS hA [0, 1, 2, 3, 4] rfl (fun u H locs hw hP hS => ?_)
  try dsimp only at hw
  refine lv_aload_n hx hb dX5_endOf_5 rfl (lv_at hl 0 rfl) ?_
  refine va_get (D := gD G) (ci := 5) (v := .ref qd) (C := RX5) (T := TX5) (N := 7) hx hb hts k_X5_endOf_inX5 hown hK hP 0 rfl rfl 0 (by decide) (hts _ k_X5_endOf_f10) (fun _ h9 => h9) rfl dX5_endOf_6 ?_
  refine va_get (D := gD G) (ci := 1) (v := .ref qde) (C := RX1) (T := TX1) (N := 6) hx hb hts k_X5_endOf_inX1 hown hK hP 1 rfl rfl 1 (by decide) (hts _ k_X5_endOf_f107) (fun _ h9 => h9) rfl dX5_endOf_9 ?_
  refine lv_iload_n hx hb dX5_endOf_12 rfl (lv_at hl 1 rfl) ?_
  obtain ⟨h1, hw⟩ := hw
  refine va_iald hx hb hK hP 3 0 rfl rfl h1 dX5_endOf_13 ?_
  exact fin_i () hx hb hr hlocks hK hS hP hD hw dX5_endOf_14

set_option maxHeartbeats 8000000 in
set_option maxRecDepth 100000 in
theorem cn_X5_fameOf (l : Launch) (G : mG) (qm : Nat) (qd : Nat) (qs : Nat) (qn : Nat) (qk : Nat) (qt : Nat) (qr : Nat) (qx : Nat) (qdb : Nat) (qde : Nat) (qdf : Nat) (db : Nat → Int32) (de : Nat → Int32) (df : Nat → Int32) (dc : Int32) (dp : Int32) (dk : Int32) (a1 : Int32) {Q : Int32 → Prop} (hw : wn_X5_fameOf df dc a1 Q) (sz : Nat) :
    Met l yX5_fameOf wsX5_fameOf ({ frames := 1, cells := 0, slots := 0, locals := 21 } : Room) (va_Pc [.ref qm, .int a1] (mPre G (w0_X5_fameOf G qm qd qs qn qk qt qr qx qdb qde qdf db de df dc dp dk) sz)) (va_Qi (fun (r : Int32) (u : Unit) => Q r) (mBk G (va_A (w0_X5_fameOf G qm qd qs qn qk qt qr qx qdb qde qdf db de df dc dp dk) sz) (fun (u : Unit) => (w0_X5_fameOf G qm qd qs qn qk qt qr qx qdb qde qdf db de df dc dp dk))) (va_A (w0_X5_fameOf G qm qd qs qn qk qt qr qx qdb qde qdf db de df dc dp dk) sz)) 0 0 (va_A (w0_X5_fameOf G qm qd qs qn qk qt qr qx qdb qde qdf db de df dc dp dk) sz) := by
  refine ms_i (cc := cX5_fameOf) (maxL := 2) (ret := some .int) (post := (fun (r : Int32) (u : Unit) => Q r)) (w1 := (fun (u : Unit) => (w0_X5_fameOf G qm qd qs qn qk qt qr qx qdb qde qdf db de df dc dp dk))) (by decide) rfl (Nat.le_of_ble_eq_true rfl) ?_ sz
  intro p e s m below meth c A ls H locs hx hb hr hml hown hts hlocks hK hG hP hD hS hA hl
  have hown : s.vm.findClass RX5 = some m.cls := hown
  have hl : lv_has ls 2 [(0, .ref qm), (1, .int a1)] := hl
  unfold wn_X5_fameOf at hw
  refine lv_aload_n hx hb dX5_fameOf_0 rfl (lv_at hl 0 rfl) ?_
  refine lv_iload_n hx hb dX5_fameOf_1 rfl (lv_at hl 1 rfl) ?_
  refine kcR_v (kr_V [] ⟨hx, hb, hml, hown, hts⟩ (cn_X5_requireRehearsal l G qm qd qs qn qk qt qr qx qdb qde qdf db de df dc dp dk a1 hw H.size) (cwV 1 hts gX5_fameOf_X5_requireRehearsal rfl rfl rfl (by decide +kernel) ⟨Nat.le_of_ble_eq_true rfl, Nat.le_of_ble_eq_true rfl⟩) hK hG hP hD hS hA [0, 1, 2, 3, 4] rfl rfl 5 0 rfl rfl rfl hl.1 rfl (Nat.le_of_ble_eq_true rfl) dX5_fameOf_2 ⟨Nat.le_of_ble_eq_true rfl, Nat.le_of_ble_eq_true rfl⟩) hP hD hS hA [0, 1, 2, 3, 4] rfl (fun u H locs hw hP hS => ?_)
  try dsimp only at hw
  refine lv_aload_n hx hb dX5_fameOf_5 rfl (lv_at hl 0 rfl) ?_
  refine va_get (D := gD G) (ci := 5) (v := .ref qd) (C := RX5) (T := TX5) (N := 7) hx hb hts k_X5_fameOf_inX5 hown hK hP 0 rfl rfl 0 (by decide) (hts _ k_X5_fameOf_f10) (fun _ h9 => h9) rfl dX5_fameOf_6 ?_
  refine va_get (D := gD G) (ci := 1) (v := .ref qdf) (C := RX1) (T := TX1) (N := 6) hx hb hts k_X5_fameOf_inX1 hown hK hP 1 rfl rfl 2 (by decide) (hts _ k_X5_fameOf_f78) (fun _ h9 => h9) rfl dX5_fameOf_9 ?_
  refine lv_iload_n hx hb dX5_fameOf_12 rfl (lv_at hl 1 rfl) ?_
  obtain ⟨h1, hw⟩ := hw
  refine va_iald hx hb hK hP 4 0 rfl rfl h1 dX5_fameOf_13 ?_
  exact fin_i () hx hb hr hlocks hK hS hP hD hw dX5_fameOf_14

set_option maxHeartbeats 8000000 in
set_option maxRecDepth 100000 in
theorem cn_X5_famePerQuarter (l : Launch) (G : mG) (qm : Nat) (qd : Nat) (qs : Nat) (qn : Nat) (qk : Nat) (qt : Nat) (qr : Nat) (qx : Nat) (qdb : Nat) (qde : Nat) (qdf : Nat) (db : Nat → Int32) (de : Nat → Int32) (df : Nat → Int32) (dc : Int32) (dp : Int32) (dk : Int32) (a1 : Int32) {Q : UInt32 → Prop} (hw : wn_X5_famePerQuarter db de df dc a1 Q) (sz : Nat) :
    Met l yX5_famePerQuarter wsX5_famePerQuarter ({ frames := 1, cells := 0, slots := 0, locals := 21 } : Room) (va_Pc [.ref qm, .int a1] (mPre G (w0_X5_famePerQuarter G qm qd qs qn qk qt qr qx qdb qde qdf db de df dc dp dk) sz)) (va_Qf (fun (r : UInt32) (u : Unit) => Q r) (mBk G (va_A (w0_X5_famePerQuarter G qm qd qs qn qk qt qr qx qdb qde qdf db de df dc dp dk) sz) (fun (u : Unit) => (w0_X5_famePerQuarter G qm qd qs qn qk qt qr qx qdb qde qdf db de df dc dp dk))) (va_A (w0_X5_famePerQuarter G qm qd qs qn qk qt qr qx qdb qde qdf db de df dc dp dk) sz)) 0 0 (va_A (w0_X5_famePerQuarter G qm qd qs qn qk qt qr qx qdb qde qdf db de df dc dp dk) sz) := by
  refine ms_f (cc := cX5_famePerQuarter) (maxL := 2) (ret := some .float) (post := (fun (r : UInt32) (u : Unit) => Q r)) (w1 := (fun (u : Unit) => (w0_X5_famePerQuarter G qm qd qs qn qk qt qr qx qdb qde qdf db de df dc dp dk))) (by decide) rfl (Nat.le_of_ble_eq_true rfl) ?_ sz
  intro p e s m below meth c A ls H locs hx hb hr hml hown hts hlocks hK hG hP hD hS hA hl
  have hown : s.vm.findClass RX5 = some m.cls := hown
  have hl : lv_has ls 2 [(0, .ref qm), (1, .int a1)] := hl
  unfold wn_X5_famePerQuarter at hw
  refine lv_aload_n hx hb dX5_famePerQuarter_0 rfl (lv_at hl 0 rfl) ?_
  refine lv_iload_n hx hb dX5_famePerQuarter_1 rfl (lv_at hl 1 rfl) ?_
  refine kcR_v (kr_V [] ⟨hx, hb, hml, hown, hts⟩ (cn_X5_requireRehearsal l G qm qd qs qn qk qt qr qx qdb qde qdf db de df dc dp dk a1 hw H.size) (cwV 1 hts gX5_famePerQuarter_X5_requireRehearsal rfl rfl rfl (by decide +kernel) ⟨Nat.le_of_ble_eq_true rfl, Nat.le_of_ble_eq_true rfl⟩) hK hG hP hD hS hA [0, 1, 2, 3, 4] rfl rfl 5 0 rfl rfl rfl hl.1 rfl (Nat.le_of_ble_eq_true rfl) dX5_famePerQuarter_2 ⟨Nat.le_of_ble_eq_true rfl, Nat.le_of_ble_eq_true rfl⟩) hP hD hS hA [0, 1, 2, 3, 4] rfl (fun u H locs hw hP hS => ?_)
  try dsimp only at hw
  refine lv_aload_n hx hb dX5_famePerQuarter_5 rfl (lv_at hl 0 rfl) ?_
  refine va_get (D := gD G) (ci := 5) (v := .ref qd) (C := RX5) (T := TX5) (N := 7) hx hb hts k_X5_famePerQuarter_inX5 hown hK hP 0 rfl rfl 0 (by decide) (hts _ k_X5_famePerQuarter_f10) (fun _ h9 => h9) rfl dX5_famePerQuarter_6 ?_
  refine va_get (D := gD G) (ci := 1) (v := .ref qdf) (C := RX1) (T := TX1) (N := 6) hx hb hts k_X5_famePerQuarter_inX1 hown hK hP 1 rfl rfl 2 (by decide) (hts _ k_X5_famePerQuarter_f78) (fun _ h9 => h9) rfl dX5_famePerQuarter_9 ?_
  refine lv_iload_n hx hb dX5_famePerQuarter_12 rfl (lv_at hl 1 rfl) ?_
  obtain ⟨h1, hw⟩ := hw
  refine va_iald hx hb hK hP 4 0 rfl rfl h1 dX5_famePerQuarter_13 ?_
  refine lv_i2f hx hb dX5_famePerQuarter_14 ?_
  refine lv_aload_n hx hb dX5_famePerQuarter_15 rfl (lv_at hl 0 rfl) ?_
  refine va_get (D := gD G) (ci := 5) (v := .ref qd) (C := RX5) (T := TX5) (N := 7) hx hb hts k_X5_famePerQuarter_inX5 hown hK hP 0 rfl rfl 0 (by decide) (hts _ k_X5_famePerQuarter_f10) (fun _ h9 => h9) rfl dX5_famePerQuarter_16 ?_
  refine lv_iload_n hx hb dX5_famePerQuarter_19 rfl (lv_at hl 1 rfl) ?_
  refine kcR_i (kr_V [.float (FP.i2f (df a1.toNatClampNeg))] ⟨hx, hb, hml, hown, hts⟩ (cn_X1_quartersOf l G qd qdb qde qdf db de df dc dp dk a1 hw H.size) (cwV 1 hts gX5_famePerQuarter_X1_quartersOf rfl rfl rfl (by decide +kernel) ⟨Nat.le_of_ble_eq_true rfl, Nat.le_of_ble_eq_true rfl⟩) hK hG hP hD hS hA [1, 2, 3, 4] rfl rfl 1 1 rfl rfl rfl hl.1 rfl (Nat.le_of_ble_eq_true rfl) dX5_famePerQuarter_20 ⟨Nat.le_of_ble_eq_true rfl, Nat.le_of_ble_eq_true rfl⟩) hP hD hS hA [1, 2, 3, 4] rfl (fun r2 u H locs hw hP hS => ?_)
  try dsimp only at hw
  refine lv_i2f hx hb dX5_famePerQuarter_23 ?_
  obtain ⟨h3, hw⟩ := hw
  refine lv_fdiv hx hb dX5_famePerQuarter_24 h3 ?_
  exact fin_f () hx hb hr hlocks hK hS hP hD hw dX5_famePerQuarter_25

abbrev w0_X5_floatBits (G : mG) : va_W := []
set_option maxHeartbeats 8000000 in
set_option maxRecDepth 100000 in
theorem cn_X5_floatBits (l : Launch) (G : mG) (a0 : UInt32) {Q : Int64 → Prop} (hw : wn_X5_floatBits a0 Q) (sz : Nat) :
    Met l yX5_floatBits wsX5_floatBits ({ frames := 1, cells := 0, slots := 0, locals := 28 } : Room) (va_Pc [.float a0] (mPre G (w0_X5_floatBits G) sz)) (va_Ql (fun (r : Int64) (u : Unit) => Q r) (mBk G (va_A (w0_X5_floatBits G) sz) (fun (u : Unit) => (w0_X5_floatBits G))) (va_A (w0_X5_floatBits G) sz)) 0 0 (va_A (w0_X5_floatBits G) sz) := by
  refine ms_l (cc := cX5_floatBits) (maxL := 1) (ret := some .long) (post := (fun (r : Int64) (u : Unit) => Q r)) (w1 := (fun (u : Unit) => (w0_X5_floatBits G))) (by decide) rfl (Nat.le_of_ble_eq_true rfl) ?_ sz
  intro p e s m below meth c A ls H locs hx hb hr hml hown hts hlocks hK hG hP hD hS hA hl
  have hown : s.vm.findClass RX5 = some m.cls := hown
  have hl : lv_has ls 1 [(0, .float a0)] := hl
  unfold wn_X5_floatBits at hw
  refine lv_fload_n hx hb dX5_floatBits_0 rfl (lv_at hl 0 rfl) ?_
  obtain ⟨h1, hw⟩ := hw
  refine lv_f2d hx hb dX5_floatBits_1 h1 ?_
  refine lv_bipush (v := 23) hx hb dX5_floatBits_2 (by decide) ?_
  refine lv_bipush (v := 127) hx hb dX5_floatBits_4 (by decide) ?_
  refine kcR_l (kr_S [] ⟨hx, hb, hml, hown, hts⟩ (cn_X5_bitsOf l G (FP.f2d a0) (23 : Int32) (127 : Int32) hw H.size) (va_cwS 3 hts gX5_floatBits_X5_bitsOf rfl rfl rfl (by decide +kernel) ⟨Nat.le_of_ble_eq_true rfl, Nat.le_of_ble_eq_true rfl⟩) hK hG hP hD hS hA [] rfl rfl rfl hl.1 rfl (Nat.le_of_ble_eq_true rfl) dX5_floatBits_6 ⟨Nat.le_of_ble_eq_true rfl, Nat.le_of_ble_eq_true rfl⟩) hP hD hS hA [] rfl (fun r2 u H locs hw hP hS => ?_)
  try dsimp only at hw
  exact fin_l () hx hb hr hlocks hK hS hP hD hw dX5_floatBits_9

set_option maxHeartbeats 8000000 in
set_option maxRecDepth 100000 in
theorem cn_X5_isBooked (l : Launch) (G : mG) (qm : Nat) (qd : Nat) (qs : Nat) (qn : Nat) (qk : Nat) (qt : Nat) (qr : Nat) (qx : Nat) (qdb : Nat) (qde : Nat) (qdf : Nat) (db : Nat → Int32) (de : Nat → Int32) (df : Nat → Int32) (dc : Int32) (dp : Int32) (dk : Int32) (a1 : Int32) {Q : Int32 → Prop} (hw : wn_X5_isBooked dc dk a1 Q) (sz : Nat) :
    Met l yX5_isBooked wsX5_isBooked ({ frames := 3, cells := 0, slots := 0, locals := 62 } : Room) (va_Pc [.ref qm, .int a1] (mPre G (w0_X5_isBooked G qm qd qs qn qk qt qr qx qdb qde qdf db de df dc dp dk) sz)) (va_Qi (fun (r : Int32) (u : Unit) => (r = 0 ∨ r = 1) ∧ Q r) (mBk G (va_A (w0_X5_isBooked G qm qd qs qn qk qt qr qx qdb qde qdf db de df dc dp dk) sz) (fun (u : Unit) => (w0_X5_isBooked G qm qd qs qn qk qt qr qx qdb qde qdf db de df dc dp dk))) (va_A (w0_X5_isBooked G qm qd qs qn qk qt qr qx qdb qde qdf db de df dc dp dk) sz)) 0 0 (va_A (w0_X5_isBooked G qm qd qs qn qk qt qr qx qdb qde qdf db de df dc dp dk) sz) := by
  refine ms_i (cc := cX5_isBooked) (maxL := 2) (ret := some .boolean) (post := (fun (r : Int32) (u : Unit) => (r = 0 ∨ r = 1) ∧ Q r)) (w1 := (fun (u : Unit) => (w0_X5_isBooked G qm qd qs qn qk qt qr qx qdb qde qdf db de df dc dp dk))) (by decide) rfl (Nat.le_of_ble_eq_true rfl) ?_ sz
  intro p e s m below meth c A ls H locs hx hb hr hml hown hts hlocks hK hG hP hD hS hA hl
  have hown : s.vm.findClass RX5 = some m.cls := hown
  have hl : lv_has ls 2 [(0, .ref qm), (1, .int a1)] := hl
  unfold wn_X5_isBooked at hw
  refine lv_aload_n hx hb dX5_isBooked_0 rfl (lv_at hl 0 rfl) ?_
  refine lv_iload_n hx hb dX5_isBooked_1 rfl (lv_at hl 1 rfl) ?_
  refine kcR_v (kr_V [] ⟨hx, hb, hml, hown, hts⟩ (cn_X5_requireRehearsal l G qm qd qs qn qk qt qr qx qdb qde qdf db de df dc dp dk a1 hw H.size) (cwV 1 hts gX5_isBooked_X5_requireRehearsal rfl rfl rfl (by decide +kernel) ⟨Nat.le_of_ble_eq_true rfl, Nat.le_of_ble_eq_true rfl⟩) hK hG hP hD hS hA [0, 1, 2, 3, 4] rfl rfl 5 0 rfl rfl rfl hl.1 rfl (Nat.le_of_ble_eq_true rfl) dX5_isBooked_2 ⟨Nat.le_of_ble_eq_true rfl, Nat.le_of_ble_eq_true rfl⟩) hP hD hS hA [0, 1, 2, 3, 4] rfl (fun u H locs hw hP hS => ?_)
  try dsimp only at hw
  refine lv_aload_n hx hb dX5_isBooked_5 rfl (lv_at hl 0 rfl) ?_
  refine va_get (D := gD G) (ci := 5) (v := .ref qd) (C := RX5) (T := TX5) (N := 7) hx hb hts k_X5_isBooked_inX5 hown hK hP 0 rfl rfl 0 (by decide) (hts _ k_X5_isBooked_f10) (fun _ h9 => h9) rfl dX5_isBooked_6 ?_
  refine lv_iload_n hx hb dX5_isBooked_9 rfl (lv_at hl 1 rfl) ?_
  refine kcR_i (kr_V [] ⟨hx, hb, hml, hown, hts⟩ (cn_X1_hasBooked l G qd qdb qde qdf db de df dc dp dk a1 hw H.size) (cwV 1 hts gX5_isBooked_X1_hasBooked rfl rfl rfl (by decide +kernel) ⟨Nat.le_of_ble_eq_true rfl, Nat.le_of_ble_eq_true rfl⟩) hK hG hP hD hS hA [1, 2, 3, 4] rfl rfl 1 1 rfl rfl rfl hl.1 rfl (Nat.le_of_ble_eq_true rfl) dX5_isBooked_10 ⟨Nat.le_of_ble_eq_true rfl, Nat.le_of_ble_eq_true rfl⟩) hP hD hS hA [1, 2, 3, 4] rfl (fun r1 u H locs hw hP hS => ?_)
  try dsimp only at hw
  obtain ⟨hz_r1, hw⟩ := hw
  exact fin_z () hx hb hr (nz hz_r1) hlocks hK hS hP hD ⟨hz_r1, hw⟩ dX5_isBooked_13

set_option maxHeartbeats 8000000 in
set_option maxRecDepth 100000 in
theorem cn_X5_conflictsOf (l : Launch) (G : mG) (qm : Nat) (qd : Nat) (qs : Nat) (qn : Nat) (qk : Nat) (qt : Nat) (qr : Nat) (qx : Nat) (qdb : Nat) (qde : Nat) (qdf : Nat) (db : Nat → Int32) (de : Nat → Int32) (df : Nat → Int32) (dc : Int32) (dp : Int32) (dk : Int32) (a1 : Int32) {Q : Int32 → Prop} (hw : wn_X5_conflictsOf db de dc dp a1 Q) (sz : Nat) :
    Met l yX5_conflictsOf wsX5_conflictsOf ({ frames := 3, cells := 0, slots := 0, locals := 69 } : Room) (va_Pc [.ref qm, .int a1] (mPre G (w0_X5_conflictsOf G qm qd qs qn qk qt qr qx qdb qde qdf db de df dc dp dk) sz)) (va_Qi (fun (r : Int32) (u : Unit) => Q r) (mBk G (va_A (w0_X5_conflictsOf G qm qd qs qn qk qt qr qx qdb qde qdf db de df dc dp dk) sz) (fun (u : Unit) => (w0_X5_conflictsOf G qm qd qs qn qk qt qr qx qdb qde qdf db de df dc dp dk))) (va_A (w0_X5_conflictsOf G qm qd qs qn qk qt qr qx qdb qde qdf db de df dc dp dk) sz)) 0 0 (va_A (w0_X5_conflictsOf G qm qd qs qn qk qt qr qx qdb qde qdf db de df dc dp dk) sz) := by
  refine ms_i (cc := cX5_conflictsOf) (maxL := 2) (ret := some .int) (post := (fun (r : Int32) (u : Unit) => Q r)) (w1 := (fun (u : Unit) => (w0_X5_conflictsOf G qm qd qs qn qk qt qr qx qdb qde qdf db de df dc dp dk))) (by decide) rfl (Nat.le_of_ble_eq_true rfl) ?_ sz
  intro p e s m below meth c A ls H locs hx hb hr hml hown hts hlocks hK hG hP hD hS hA hl
  have hown : s.vm.findClass RX5 = some m.cls := hown
  have hl : lv_has ls 2 [(0, .ref qm), (1, .int a1)] := hl
  unfold wn_X5_conflictsOf at hw
  refine lv_aload_n hx hb dX5_conflictsOf_0 rfl (lv_at hl 0 rfl) ?_
  refine lv_iload_n hx hb dX5_conflictsOf_1 rfl (lv_at hl 1 rfl) ?_
  refine kcR_v (kr_V [] ⟨hx, hb, hml, hown, hts⟩ (cn_X5_requireRehearsal l G qm qd qs qn qk qt qr qx qdb qde qdf db de df dc dp dk a1 hw H.size) (cwV 1 hts gX5_conflictsOf_X5_requireRehearsal rfl rfl rfl (by decide +kernel) ⟨Nat.le_of_ble_eq_true rfl, Nat.le_of_ble_eq_true rfl⟩) hK hG hP hD hS hA [0, 1, 2, 3, 4] rfl rfl 5 0 rfl rfl rfl hl.1 rfl (Nat.le_of_ble_eq_true rfl) dX5_conflictsOf_2 ⟨Nat.le_of_ble_eq_true rfl, Nat.le_of_ble_eq_true rfl⟩) hP hD hS hA [0, 1, 2, 3, 4] rfl (fun u H locs hw hP hS => ?_)
  try dsimp only at hw
  refine lv_aload_n hx hb dX5_conflictsOf_5 rfl (lv_at hl 0 rfl) ?_
  refine va_get (D := gD G) (ci := 5) (v := .ref qd) (C := RX5) (T := TX5) (N := 7) hx hb hts k_X5_conflictsOf_inX5 hown hK hP 0 rfl rfl 0 (by decide) (hts _ k_X5_conflictsOf_f10) (fun _ h9 => h9) rfl dX5_conflictsOf_6 ?_
  refine lv_iload_n hx hb dX5_conflictsOf_9 rfl (lv_at hl 1 rfl) ?_
  refine kcR_i (kr_V [] ⟨hx, hb, hml, hown, hts⟩ (cn_X1_conflictsWith l G qd qdb qde qdf db de df dc dp dk a1 hw H.size) (cwV 1 hts gX5_conflictsOf_X1_conflictsWith rfl rfl rfl (by decide +kernel) ⟨Nat.le_of_ble_eq_true rfl, Nat.le_of_ble_eq_true rfl⟩) hK hG hP hD hS hA [1, 2, 3, 4] rfl rfl 1 1 rfl rfl rfl hl.1 rfl (Nat.le_of_ble_eq_true rfl) dX5_conflictsOf_10 ⟨Nat.le_of_ble_eq_true rfl, Nat.le_of_ble_eq_true rfl⟩) hP hD hS hA [1, 2, 3, 4] rfl (fun r1 u H locs hw hP hS => ?_)
  try dsimp only at hw
  refine kcR_i (kr_S [] ⟨hx, hb, hml, hown, hts⟩ (cn_J6_bitCount_0f7a4 l G r1 hw H.size) (va_cwS 1 hts gX5_conflictsOf_J6_bitCount_0f7a4 rfl rfl rfl (by decide +kernel) ⟨Nat.le_of_ble_eq_true rfl, Nat.le_of_ble_eq_true rfl⟩) hK hG hP hD hS hA [] rfl rfl rfl hl.1 rfl (Nat.le_of_ble_eq_true rfl) dX5_conflictsOf_13 ⟨Nat.le_of_ble_eq_true rfl, Nat.le_of_ble_eq_true rfl⟩) hP hD hS hA [] rfl (fun r2 u H locs hw hP hS => ?_)
  try dsimp only at hw
  exact fin_i () hx hb hr hlocks hK hS hP hD hw dX5_conflictsOf_16

set_option maxHeartbeats 8000000 in
set_option maxRecDepth 100000 in
theorem cn_X5_roomOf (l : Launch) (G : mG) (qm : Nat) (qd : Nat) (qs : Nat) (qn : Nat) (qk : Nat) (qt : Nat) (qr : Nat) (qx : Nat) (qdb : Nat) (qde : Nat) (qdf : Nat) (qro : Nat) (qrg : Nat) (db : Nat → Int32) (de : Nat → Int32) (df : Nat → Int32) (dc : Int32) (dp : Int32) (dk : Int32) (ro : Nat → Int32) (rg : Nat → Int32) (a1 : Int32) {Q : Int32 → (Nat → Int32) → (Nat → Int32) → Prop} (hw : wn_X5_roomOf db de dc dp ro rg a1 Q) (sz : Nat) :
    Met l yX5_roomOf wsX5_roomOf ({ frames := 5, cells := 0, slots := 0, locals := 114 } : Room) (va_Pc [.ref qm, .int a1] (mPre G (w0_X5_roomOf G qm qd qs qn qk qt qr qx qdb qde qdf qro qrg db de df dc dp dk ro rg) sz)) (va_Qi (fun (r : Int32) (u : (Nat → Int32) × (Nat → Int32)) => Q r u.1 u.2) (mBk G (va_A (w0_X5_roomOf G qm qd qs qn qk qt qr qx qdb qde qdf qro qrg db de df dc dp dk ro rg) sz) (fun (u : (Nat → Int32) × (Nat → Int32)) => (w0_X5_roomOf G qm qd qs qn qk qt qr qx qdb qde qdf qro qrg db de df dc dp dk u.1 u.2))) (va_A (w0_X5_roomOf G qm qd qs qn qk qt qr qx qdb qde qdf qro qrg db de df dc dp dk ro rg) sz)) 0 0 (va_A (w0_X5_roomOf G qm qd qs qn qk qt qr qx qdb qde qdf qro qrg db de df dc dp dk ro rg) sz) := by
  refine ms_i (cc := cX5_roomOf) (maxL := 2) (ret := some .int) (post := (fun (r : Int32) (u : (Nat → Int32) × (Nat → Int32)) => Q r u.1 u.2)) (w1 := (fun (u : (Nat → Int32) × (Nat → Int32)) => (w0_X5_roomOf G qm qd qs qn qk qt qr qx qdb qde qdf qro qrg db de df dc dp dk u.1 u.2))) (by decide) rfl (Nat.le_of_ble_eq_true rfl) ?_ sz
  intro p e s m below meth c A ls H locs hx hb hr hml hown hts hlocks hK hG hP hD hS hA hl
  have hown : s.vm.findClass RX5 = some m.cls := hown
  have hl : lv_has ls 2 [(0, .ref qm), (1, .int a1)] := hl
  unfold wn_X5_roomOf at hw
  refine lv_aload_n hx hb dX5_roomOf_0 rfl (lv_at hl 0 rfl) ?_
  refine lv_iload_n hx hb dX5_roomOf_1 rfl (lv_at hl 1 rfl) ?_
  refine kcR_v (kr_V [] ⟨hx, hb, hml, hown, hts⟩ (cn_X5_requireRehearsal l G qm qd qs qn qk qt qr qx qdb qde qdf db de df dc dp dk a1 hw H.size) (cwV 1 hts gX5_roomOf_X5_requireRehearsal rfl rfl rfl (by decide +kernel) ⟨Nat.le_of_ble_eq_true rfl, Nat.le_of_ble_eq_true rfl⟩) hK hG hP hD hS hA [0, 1, 2, 3, 4] rfl rfl 5 0 rfl rfl rfl hl.1 rfl (Nat.le_of_ble_eq_true rfl) dX5_roomOf_2 ⟨Nat.le_of_ble_eq_true rfl, Nat.le_of_ble_eq_true rfl⟩) hP hD hS hA [0, 1, 2, 3, 4] rfl (fun u H locs hw hP hS => ?_)
  try dsimp only at hw
  refine lv_aload_n hx hb dX5_roomOf_5 rfl (lv_at hl 0 rfl) ?_
  refine va_get (D := gD G) (ci := 5) (v := .ref qr) (C := RX5) (T := TX5) (N := 7) hx hb hts k_X5_roomOf_inX5 hown hK hP 0 rfl rfl 5 (by decide) (hts _ k_X5_roomOf_f41) (fun _ h9 => h9) rfl dX5_roomOf_6 ?_
  refine lv_aload_n hx hb dX5_roomOf_9 rfl (lv_at hl 0 rfl) ?_
  refine va_get (D := gD G) (ci := 5) (v := .ref qd) (C := RX5) (T := TX5) (N := 7) hx hb hts k_X5_roomOf_inX5 hown hK hP 0 rfl rfl 0 (by decide) (hts _ k_X5_roomOf_f10) (fun _ h9 => h9) rfl dX5_roomOf_10 ?_
  refine lv_iload_n hx hb dX5_roomOf_13 rfl (lv_at hl 1 rfl) ?_
  refine kc_i (kr_V [] ⟨hx, hb, hml, hown, hts⟩ (cn_X2_givenTo l G qr qro qrg qd qdb qde qdf ro rg db de df dc dp dk a1 hw H.size) (cwV 2 hts gX5_roomOf_X2_givenTo rfl rfl rfl (by decide +kernel) ⟨Nat.le_of_ble_eq_true rfl, Nat.le_of_ble_eq_true rfl⟩) hK hG hP hD hS hA [5, 6, 7, 1, 2, 3, 4] rfl rfl 2 5 rfl rfl rfl hl.1 rfl (Nat.le_of_ble_eq_true rfl) dX5_roomOf_14 ⟨Nat.le_of_ble_eq_true rfl, Nat.le_of_ble_eq_true rfl⟩) hP hD hS hA [5, 6, 7, 1, 2, 3, 4] [0] rfl rfl rfl (by decide) (fun r1 u H locs hw hP hD hS => ?_)
  obtain ⟨ro_2, rg_3⟩ := u
  try dsimp only at hw
  have hP := hP.sub (ws' := (w0_X5_roomOf G qm qd qs qn qk qt qr qx qdb qde qdf qro qrg db de df dc dp dk ro_2 rg_3)) [0, 4, 5, 6, 7, 1, 2, 3] rfl
  have hD := hD.sub (ws' := (w0_X5_roomOf G qm qd qs qn qk qt qr qx qdb qde qdf qro qrg db de df dc dp dk ro_2 rg_3)) [0, 4, 5, 6, 7, 1, 2, 3] rfl rfl
  exact fin_i (ro_2, rg_3) hx hb hr hlocks hK hS hP hD hw dX5_roomOf_17

set_option maxHeartbeats 8000000 in
set_option maxRecDepth 100000 in
theorem cn_X5_bestWith (l : Launch) (G : mG) (qm : Nat) (qd : Nat) (qs : Nat) (qn : Nat) (qk : Nat) (qt : Nat) (qr : Nat) (qx : Nat) (qdb : Nat) (qde : Nat) (qdf : Nat) (qxo : Nat) (qxc : Nat) (qxt : Nat) (db : Nat → Int32) (de : Nat → Int32) (df : Nat → Int32) (dc : Int32) (dp : Int32) (dk : Int32) (ho : Nat → Int32) (hc : Nat → Int32) (ht : Nat → Int32) (a1 : Int32) {Q : Int32 → (Nat → Int32) → (Nat → Int32) → Prop} (hw : wn_X5_bestWith db de df dc dp ho ht a1 Q) (sz : Nat) :
    Met l yX5_bestWith wsX5_bestWith ({ frames := 3, cells := 0, slots := 0, locals := 69 } : Room) (va_Pc [.ref qm, .int a1] (mPre G (w0_X5_bestWith G qm qd qs qn qk qt qr qx qdb qde qdf qxo qxc qxt db de df dc dp dk ho hc ht) sz)) (va_Qi (fun (r : Int32) (u : (Nat → Int32) × (Nat → Int32)) => Q r u.1 u.2) (mBk G (va_A (w0_X5_bestWith G qm qd qs qn qk qt qr qx qdb qde qdf qxo qxc qxt db de df dc dp dk ho hc ht) sz) (fun (u : (Nat → Int32) × (Nat → Int32)) => (w0_X5_bestWith G qm qd qs qn qk qt qr qx qdb qde qdf qxo qxc qxt db de df dc dp dk u.1 hc u.2))) (va_A (w0_X5_bestWith G qm qd qs qn qk qt qr qx qdb qde qdf qxo qxc qxt db de df dc dp dk ho hc ht) sz)) 0 0 (va_A (w0_X5_bestWith G qm qd qs qn qk qt qr qx qdb qde qdf qxo qxc qxt db de df dc dp dk ho hc ht) sz) := by
  refine ms_i (cc := cX5_bestWith) (maxL := 3) (ret := some .int) (post := (fun (r : Int32) (u : (Nat → Int32) × (Nat → Int32)) => Q r u.1 u.2)) (w1 := (fun (u : (Nat → Int32) × (Nat → Int32)) => (w0_X5_bestWith G qm qd qs qn qk qt qr qx qdb qde qdf qxo qxc qxt db de df dc dp dk u.1 hc u.2))) (by decide) rfl (Nat.le_of_ble_eq_true rfl) ?_ sz
  intro p e s m below meth c A ls H locs hx hb hr hml hown hts hlocks hK hG hP hD hS hA hl
  have hown : s.vm.findClass RX5 = some m.cls := hown
  have hl : lv_has ls 3 [(0, .ref qm), (1, .int a1)] := hl
  unfold wn_X5_bestWith at hw
  refine lv_aload_n hx hb dX5_bestWith_0 rfl (lv_at hl 0 rfl) ?_
  refine lv_iload_n hx hb dX5_bestWith_1 rfl (lv_at hl 1 rfl) ?_
  refine kcR_v (kr_V [] ⟨hx, hb, hml, hown, hts⟩ (cn_X5_requireRehearsal l G qm qd qs qn qk qt qr qx qdb qde qdf db de df dc dp dk a1 hw H.size) (cwV 1 hts gX5_bestWith_X5_requireRehearsal rfl rfl rfl (by decide +kernel) ⟨Nat.le_of_ble_eq_true rfl, Nat.le_of_ble_eq_true rfl⟩) hK hG hP hD hS hA [0, 1, 2, 3, 4] rfl rfl 5 0 rfl rfl rfl hl.1 rfl (Nat.le_of_ble_eq_true rfl) dX5_bestWith_2 ⟨Nat.le_of_ble_eq_true rfl, Nat.le_of_ble_eq_true rfl⟩) hP hD hS hA [0, 1, 2, 3, 4] rfl (fun u H locs hw hP hS => ?_)
  try dsimp only at hw
  refine lv_aload_n hx hb dX5_bestWith_5 rfl (lv_at hl 0 rfl) ?_
  refine va_get (D := gD G) (ci := 5) (v := .ref qd) (C := RX5) (T := TX5) (N := 7) hx hb hts k_X5_bestWith_inX5 hown hK hP 0 rfl rfl 0 (by decide) (hts _ k_X5_bestWith_f10) (fun _ h9 => h9) rfl dX5_bestWith_6 ?_
  refine kcR_i (kr_V [] ⟨hx, hb, hml, hown, hts⟩ (cn_X1_all l G qd qdb qde qdf db de df dc dp dk hw H.size) (cwV 0 hts gX5_bestWith_X1_all rfl rfl rfl (by decide +kernel) ⟨Nat.le_of_ble_eq_true rfl, Nat.le_of_ble_eq_true rfl⟩) hK hG hP hD hS hA [1, 2, 3, 4] rfl rfl 1 1 rfl rfl rfl hl.1 rfl (Nat.le_of_ble_eq_true rfl) dX5_bestWith_9 ⟨Nat.le_of_ble_eq_true rfl, Nat.le_of_ble_eq_true rfl⟩) hP hD hS hA [1, 2, 3, 4] rfl (fun r1 u H locs hw hP hS => ?_)
  try dsimp only at hw
  refine lv_iload_n hx hb dX5_bestWith_12 rfl (lv_at hl 1 rfl) ?_
  refine kcR_i (kr_S [.int r1] ⟨hx, hb, hml, hown, hts⟩ (cn_X5_bit l G a1 hw H.size) (va_cwS 1 hts gX5_bestWith_X5_bit rfl rfl rfl (by decide +kernel) ⟨Nat.le_of_ble_eq_true rfl, Nat.le_of_ble_eq_true rfl⟩) hK hG hP hD hS hA [] rfl rfl rfl hl.1 rfl (Nat.le_of_ble_eq_true rfl) dX5_bestWith_13 ⟨Nat.le_of_ble_eq_true rfl, Nat.le_of_ble_eq_true rfl⟩) hP hD hS hA [] rfl (fun r2 u H locs hw hP hS => ?_)
  try dsimp only at hw
  refine lv_iconst (v := -1) hx hb dX5_bestWith_16 (by decide) ?_
  refine lv_ixor hx hb dX5_bestWith_17 ?_
  refine lv_iand hx hb dX5_bestWith_18 ?_
  refine lv_aload_n hx hb dX5_bestWith_19 rfl (lv_at hl 0 rfl) ?_
  refine va_get (D := gD G) (ci := 5) (v := .ref qd) (C := RX5) (T := TX5) (N := 7) hx hb hts k_X5_bestWith_inX5 hown hK hP 0 rfl rfl 0 (by decide) (hts _ k_X5_bestWith_f10) (fun _ h9 => h9) rfl dX5_bestWith_20 ?_
  refine lv_iload_n hx hb dX5_bestWith_23 rfl (lv_at hl 1 rfl) ?_
  refine kcR_i (kr_V [.int (r1 &&& (r2 ^^^ (-1 : Int32)))] ⟨hx, hb, hml, hown, hts⟩ (cn_X1_conflictsWith l G qd qdb qde qdf db de df dc dp dk a1 hw H.size) (cwV 1 hts gX5_bestWith_X1_conflictsWith rfl rfl rfl (by decide +kernel) ⟨Nat.le_of_ble_eq_true rfl, Nat.le_of_ble_eq_true rfl⟩) hK hG hP hD hS hA [1, 2, 3, 4] rfl rfl 1 1 rfl rfl rfl hl.1 rfl (Nat.le_of_ble_eq_true rfl) dX5_bestWith_24 ⟨Nat.le_of_ble_eq_true rfl, Nat.le_of_ble_eq_true rfl⟩) hP hD hS hA [1, 2, 3, 4] rfl (fun r3 u H locs hw hP hS => ?_)
  try dsimp only at hw
  refine lv_iconst (v := -1) hx hb dX5_bestWith_27 (by decide) ?_
  refine lv_ixor hx hb dX5_bestWith_28 ?_
  refine lv_iand hx hb dX5_bestWith_29 ?_
  refine lv_istore_n (lv' := [(2, .int ((r1 &&& (r2 ^^^ (-1 : Int32))) &&& (r3 ^^^ (-1 : Int32)))), (0, .ref qm), (1, .int a1)]) hx hb dX5_bestWith_30 rfl hl (by decide) rfl (fun ls hl => ?_)
  refine lv_aload_n hx hb dX5_bestWith_31 rfl (lv_at hl 1 rfl) ?_
  refine va_get (D := gD G) (ci := 5) (v := .ref qd) (C := RX5) (T := TX5) (N := 7) hx hb hts k_X5_bestWith_inX5 hown hK hP 0 rfl rfl 0 (by decide) (hts _ k_X5_bestWith_f10) (fun _ h9 => h9) rfl dX5_bestWith_32 ?_
  refine va_get (D := gD G) (ci := 1) (v := .ref qdf) (C := RX1) (T := TX1) (N := 6) hx hb hts k_X5_bestWith_inX1 hown hK hP 1 rfl rfl 2 (by decide) (hts _ k_X5_bestWith_f78) (fun _ h9 => h9) rfl dX5_bestWith_35 ?_
  refine lv_iload_n hx hb dX5_bestWith_38 rfl (lv_at hl 2 rfl) ?_
  obtain ⟨h4, hw⟩ := hw
  refine va_iald hx hb hK hP 4 0 rfl rfl h4 dX5_bestWith_39 ?_
  refine lv_aload_n hx hb dX5_bestWith_40 rfl (lv_at hl 1 rfl) ?_
  refine va_get (D := gD G) (ci := 5) (v := .ref qx) (C := RX5) (T := TX5) (N := 7) hx hb hts k_X5_bestWith_inX5 hown hK hP 0 rfl rfl 6 (by decide) (hts _ k_X5_bestWith_f48) (fun _ h9 => h9) rfl dX5_bestWith_41 ?_
  refine lv_aload_n hx hb dX5_bestWith_44 rfl (lv_at hl 1 rfl) ?_
  refine va_get (D := gD G) (ci := 5) (v := .ref qd) (C := RX5) (T := TX5) (N := 7) hx hb hts k_X5_bestWith_inX5 hown hK hP 0 rfl rfl 0 (by decide) (hts _ k_X5_bestWith_f10) (fun _ h9 => h9) rfl dX5_bestWith_45 ?_
  refine lv_iload_n hx hb dX5_bestWith_48 rfl (lv_at hl 0 rfl) ?_
  refine kc_i (kr_V [.int (df a1.toNatClampNeg)] ⟨hx, hb, hml, hown, hts⟩ (cn_X0_fameAmong l G qx qxo qxc qxt qd qdb qde qdf ho hc ht db de df dc dp dk ((r1 &&& (r2 ^^^ (-1 : Int32))) &&& (r3 ^^^ (-1 : Int32))) hw H.size) (cwV 2 hts gX5_bestWith_X0_fameAmong rfl rfl rfl (by decide +kernel) ⟨Nat.le_of_ble_eq_true rfl, Nat.le_of_ble_eq_true rfl⟩) hK hG hP hD hS hA [5, 6, 7, 8, 1, 2, 3, 4] rfl rfl 0 5 rfl rfl rfl hl.1 rfl (Nat.le_of_ble_eq_true rfl) dX5_bestWith_49 ⟨Nat.le_of_ble_eq_true rfl, Nat.le_of_ble_eq_true rfl⟩) hP hD hS hA [5, 6, 7, 8, 1, 2, 3, 4] [0] rfl rfl rfl (by decide) (fun r5 u H locs hw hP hD hS => ?_)
  obtain ⟨ho_6, ht_7⟩ := u
  try dsimp only at hw
  have hP := hP.sub (ws' := (w0_X5_bestWith G qm qd qs qn qk qt qr qx qdb qde qdf qxo qxc qxt db de df dc dp dk ho_6 hc ht_7)) [0, 5, 6, 7, 8, 1, 2, 3, 4] rfl
  have hD := hD.sub (ws' := (w0_X5_bestWith G qm qd qs qn qk qt qr qx qdb qde qdf qxo qxc qxt db de df dc dp dk ho_6 hc ht_7)) [0, 5, 6, 7, 8, 1, 2, 3, 4] rfl rfl
  refine lv_iadd hx hb dX5_bestWith_52 ?_
  exact fin_i (ho_6, ht_7) hx hb hr hlocks hK hS hP hD hw dX5_bestWith_53

abbrev w0_X5_mixRehearsal (G : mG) (qm : Nat) (qd : Nat) (qs : Nat) (qn : Nat) (qk : Nat) (qt : Nat) (qr : Nat) (qx : Nat) (qdb : Nat) (qde : Nat) (qdf : Nat) (qro : Nat) (qrg : Nat) (qxo : Nat) (qxc : Nat) (qxt : Nat) (db : Nat → Int32) (de : Nat → Int32) (df : Nat → Int32) (dc : Int32) (dp : Int32) (dk : Int32) (ro : Nat → Int32) (rg : Nat → Int32) (ho : Nat → Int32) (hc : Nat → Int32) (ht : Nat → Int32) : va_W := [(qm, .inr (5, [.ref qd, .ref qs, .ref qn, .ref qk, .ref qt, .ref qr, .ref qx])), (qd, .inr (1, [.ref qdb, .ref qde, .ref qdf, .int dc, .int dp, .int dk])), (qdb, .inl (gI G, (14, .inl db))), (qde, .inl (gI G, (14, .inl de))), (qdf, .inl (gI G, (14, .inl df))), (qr, .inr (2, [.ref qro, .ref qrg])), (qro, .inl (gI G, (14, .inl ro))), (qrg, .inl (gI G, (14, .inl rg))), (qx, .inr (0, [.ref qxo, .ref qxc, .ref qxt])), (qxo, .inl (gI G, (14, .inl ho))), (qxc, .inl (gI G, (14, .inl hc))), (qxt, .inl (gI G, (15, .inl ht)))]
set_option maxHeartbeats 8000000 in
set_option maxRecDepth 100000 in
theorem cn_X5_mixRehearsal (l : Launch) (G : mG) (qm : Nat) (qd : Nat) (qs : Nat) (qn : Nat) (qk : Nat) (qt : Nat) (qr : Nat) (qx : Nat) (qdb : Nat) (qde : Nat) (qdf : Nat) (qro : Nat) (qrg : Nat) (qxo : Nat) (qxc : Nat) (qxt : Nat) (db : Nat → Int32) (de : Nat → Int32) (df : Nat → Int32) (dc : Int32) (dp : Int32) (dk : Int32) (ro : Nat → Int32) (rg : Nat → Int32) (ho : Nat → Int32) (hc : Nat → Int32) (ht : Nat → Int32) (a1 : Int64) (a3 : Int32) {Q : Int64 → (Nat → Int32) → (Nat → Int32) → (Nat → Int32) → (Nat → Int32) → Prop} (hw : wn_X5_mixRehearsal db de df dc dp dk ro rg ho ht a1 a3 Q) (sz : Nat) :
    Met l yX5_mixRehearsal wsX5_mixRehearsal ({ frames := 6, cells := 0, slots := 0, locals := 135 } : Room) (va_Pc [.ref qm, .long a1, .int a3] (mPre G (w0_X5_mixRehearsal G qm qd qs qn qk qt qr qx qdb qde qdf qro qrg qxo qxc qxt db de df dc dp dk ro rg ho hc ht) sz)) (va_Ql (fun (r : Int64) (u : (Nat → Int32) × (Nat → Int32) × (Nat → Int32) × (Nat → Int32)) => Q r u.1 u.2.1 u.2.2.1 u.2.2.2) (mBk G (va_A (w0_X5_mixRehearsal G qm qd qs qn qk qt qr qx qdb qde qdf qro qrg qxo qxc qxt db de df dc dp dk ro rg ho hc ht) sz) (fun (u : (Nat → Int32) × (Nat → Int32) × (Nat → Int32) × (Nat → Int32)) => (w0_X5_mixRehearsal G qm qd qs qn qk qt qr qx qdb qde qdf qro qrg qxo qxc qxt db de df dc dp dk u.1 u.2.1 u.2.2.1 hc u.2.2.2))) (va_A (w0_X5_mixRehearsal G qm qd qs qn qk qt qr qx qdb qde qdf qro qrg qxo qxc qxt db de df dc dp dk ro rg ho hc ht) sz)) 0 0 (va_A (w0_X5_mixRehearsal G qm qd qs qn qk qt qr qx qdb qde qdf qro qrg qxo qxc qxt db de df dc dp dk ro rg ho hc ht) sz) := by
  refine ms_l (cc := cX5_mixRehearsal) (maxL := 6) (ret := some .long) (post := (fun (r : Int64) (u : (Nat → Int32) × (Nat → Int32) × (Nat → Int32) × (Nat → Int32)) => Q r u.1 u.2.1 u.2.2.1 u.2.2.2)) (w1 := (fun (u : (Nat → Int32) × (Nat → Int32) × (Nat → Int32) × (Nat → Int32)) => (w0_X5_mixRehearsal G qm qd qs qn qk qt qr qx qdb qde qdf qro qrg qxo qxc qxt db de df dc dp dk u.1 u.2.1 u.2.2.1 hc u.2.2.2))) (by decide) rfl (Nat.le_of_ble_eq_true rfl) ?_ sz
  intro p e s m below meth c A ls H locs hx hb hr hml hown hts hlocks hK hG hP hD hS hA hl
  have hown : s.vm.findClass RX5 = some m.cls := hown
  have hl : lv_has ls 6 [(0, .ref qm), (1, .long a1), (3, .int a3)] := hl
  have J68 : ∀ (ro : Nat → Int32) (rg : Nat → Int32) (ho : Nat → Int32) (ht : Nat → Int32) (x1 : Int64) (x3 : Int32) (x4 : Int64) (y0 : Int64) (y1 : Int64) (H : Heap) (locs : List Loc) (ls : Array Slot), va_P (gD G) vwCl (w0_X5_mixRehearsal G qm qd qs qn qk qt qr qx qdb qde qdf qro qrg qxo qxc qxt db de df dc dp dk ro rg ho hc ht) H → va_D A (w0_X5_mixRehearsal G qm qd qs qn qk qt qr qx qdb qde qdf qro qrg qxo qxc qxt db de df dc dp dk ro rg ho hc ht) → va_S A s.heap H locs → lv_has ls 6 [(0, .ref qm), (1, .long x1), (3, .int x3), (4, .long x4)] → wj_n_X5_mixRehearsal_68 db de df dc dp dk Q ro rg ho ht x1 x3 x4 y0 y1 → W p l e ({ frames := 6, cells := 0, slots := 0, locals := 135 } : Room) s m ([.ref qm, .long a1, .int a3] : List Value).toArray below meth c H locs 0 0 (MQ below (va_Ql (fun (r : Int64) (u : (Nat → Int32) × (Nat → Int32) × (Nat → Int32) × (Nat → Int32)) => Q r u.1 u.2.1 u.2.2.1 u.2.2.2) (mBk G A (fun (u : (Nat → Int32) × (Nat → Int32) × (Nat → Int32) × (Nat → Int32)) => (w0_X5_mixRehearsal G qm qd qs qn qk qt qr qx qdb qde qdf qro qrg qxo qxc qxt db de df dc dp dk u.1 u.2.1 u.2.2.1 hc u.2.2.2))) A) ([.ref qm, .long a1, .int a3] : List Value).toArray s 0 0 A) (F0 m 68 ls [.long y1, .long y0]) := by
    intro ro rg ho ht x1 x3 x4 y0 y1 H locs ls hP hD hS hl hw
    unfold wj_n_X5_mixRehearsal_68 at hw
    refine kcR_l (kr_S [] ⟨hx, hb, hml, hown, hts⟩ (cn_X5_mix l G y0 y1 hw H.size) (va_cwS 2 hts gX5_mixRehearsal_X5_mix rfl rfl rfl (by decide +kernel) ⟨Nat.le_of_ble_eq_true rfl, Nat.le_of_ble_eq_true rfl⟩) hK hG hP hD hS hA [] rfl rfl rfl hl.1 rfl (Nat.le_of_ble_eq_true rfl) dX5_mixRehearsal_68 ⟨Nat.le_of_ble_eq_true rfl, Nat.le_of_ble_eq_true rfl⟩) hP hD hS hA [] rfl (fun r12 u H locs hw hP hS => ?_)
    try dsimp only at hw
    refine lv_lstore (lv' := [(4, .long r12), (0, .ref qm), (1, .long x1), (3, .int x3)]) hx hb dX5_mixRehearsal_71 hl (by decide) rfl (fun ls hl => ?_)
    refine lv_lload hx hb dX5_mixRehearsal_73 (lv_at hl 0 rfl) ?_
    refine lv_aload_n hx hb dX5_mixRehearsal_75 rfl (lv_at hl 1 rfl) ?_
    refine lv_iload_n hx hb dX5_mixRehearsal_76 rfl (lv_at hl 3 rfl) ?_
    refine kcR_i (kr_V [.long r12] ⟨hx, hb, hml, hown, hts⟩ (cn_X5_conflictsOf l G qm qd qs qn qk qt qr qx qdb qde qdf db de df dc dp dk x3 hw H.size) (cwV 1 hts gX5_mixRehearsal_X5_conflictsOf rfl rfl rfl (by decide +kernel) ⟨Nat.le_of_ble_eq_true rfl, Nat.le_of_ble_eq_true rfl⟩) hK hG hP hD hS hA [0, 1, 2, 3, 4] rfl rfl 5 0 rfl rfl rfl hl.1 rfl (Nat.le_of_ble_eq_true rfl) dX5_mixRehearsal_77 ⟨Nat.le_of_ble_eq_true rfl, Nat.le_of_ble_eq_true rfl⟩) hP hD hS hA [0, 1, 2, 3, 4] rfl (fun r13 u H locs hw hP hS => ?_)
    try dsimp only at hw
    refine lv_i2l hx hb dX5_mixRehearsal_80 rfl ?_
    refine kcR_l (kr_S [] ⟨hx, hb, hml, hown, hts⟩ (cn_X5_mix l G r12 r13.toInt64 hw H.size) (va_cwS 2 hts gX5_mixRehearsal_X5_mix rfl rfl rfl (by decide +kernel) ⟨Nat.le_of_ble_eq_true rfl, Nat.le_of_ble_eq_true rfl⟩) hK hG hP hD hS hA [] rfl rfl rfl hl.1 rfl (Nat.le_of_ble_eq_true rfl) dX5_mixRehearsal_81 ⟨Nat.le_of_ble_eq_true rfl, Nat.le_of_ble_eq_true rfl⟩) hP hD hS hA [] rfl (fun r14 u H locs hw hP hS => ?_)
    try dsimp only at hw
    refine lv_lstore (lv' := [(4, .long r14), (0, .ref qm), (1, .long x1), (3, .int x3)]) hx hb dX5_mixRehearsal_84 hl (by decide) rfl (fun ls hl => ?_)
    refine lv_lload hx hb dX5_mixRehearsal_86 (lv_at hl 0 rfl) ?_
    refine lv_aload_n hx hb dX5_mixRehearsal_88 rfl (lv_at hl 1 rfl) ?_
    refine lv_iload_n hx hb dX5_mixRehearsal_89 rfl (lv_at hl 3 rfl) ?_
    refine kc_i (kr_V [.long r14] ⟨hx, hb, hml, hown, hts⟩ (cn_X5_roomOf l G qm qd qs qn qk qt qr qx qdb qde qdf qro qrg db de df dc dp dk ro rg x3 hw H.size) (cwV 1 hts gX5_mixRehearsal_X5_roomOf rfl rfl rfl (by decide +kernel) ⟨Nat.le_of_ble_eq_true rfl, Nat.le_of_ble_eq_true rfl⟩) hK hG hP hD hS hA [0, 1, 2, 3, 4, 5, 6, 7] rfl rfl 5 0 rfl rfl rfl hl.1 rfl (Nat.le_of_ble_eq_true rfl) dX5_mixRehearsal_90 ⟨Nat.le_of_ble_eq_true rfl, Nat.le_of_ble_eq_true rfl⟩) hP hD hS hA [0, 1, 2, 3, 4, 5, 6, 7] [8, 9, 10, 11] rfl rfl rfl (by decide) (fun r15 u H locs hw hP hD hS => ?_)
    obtain ⟨ro_16, rg_17⟩ := u
    try dsimp only at hw
    have hP := hP.sub (ws' := (w0_X5_mixRehearsal G qm qd qs qn qk qt qr qx qdb qde qdf qro qrg qxo qxc qxt db de df dc dp dk ro_16 rg_17 ho hc ht)) [4, 5, 6, 7, 8, 9, 10, 11, 0, 1, 2, 3] rfl
    have hD := hD.sub (ws' := (w0_X5_mixRehearsal G qm qd qs qn qk qt qr qx qdb qde qdf qro qrg qxo qxc qxt db de df dc dp dk ro_16 rg_17 ho hc ht)) [4, 5, 6, 7, 8, 9, 10, 11, 0, 1, 2, 3] rfl rfl
    refine lv_i2l hx hb dX5_mixRehearsal_93 rfl ?_
    refine kcR_l (kr_S [] ⟨hx, hb, hml, hown, hts⟩ (cn_X5_mix l G r14 r15.toInt64 hw H.size) (va_cwS 2 hts gX5_mixRehearsal_X5_mix rfl rfl rfl (by decide +kernel) ⟨Nat.le_of_ble_eq_true rfl, Nat.le_of_ble_eq_true rfl⟩) hK hG hP hD hS hA [] rfl rfl rfl hl.1 rfl (Nat.le_of_ble_eq_true rfl) dX5_mixRehearsal_94 ⟨Nat.le_of_ble_eq_true rfl, Nat.le_of_ble_eq_true rfl⟩) hP hD hS hA [] rfl (fun r18 u H locs hw hP hS => ?_)
    try dsimp only at hw
    refine lv_lstore (lv' := [(4, .long r18), (0, .ref qm), (1, .long x1), (3, .int x3)]) hx hb dX5_mixRehearsal_97 hl (by decide) rfl (fun ls hl => ?_)
    refine lv_lload hx hb dX5_mixRehearsal_99 (lv_at hl 0 rfl) ?_
    refine lv_aload_n hx hb dX5_mixRehearsal_101 rfl (lv_at hl 1 rfl) ?_
    refine lv_iload_n hx hb dX5_mixRehearsal_102 rfl (lv_at hl 3 rfl) ?_
    refine kc_i (kr_V [.long r18] ⟨hx, hb, hml, hown, hts⟩ (cn_X5_bestWith l G qm qd qs qn qk qt qr qx qdb qde qdf qxo qxc qxt db de df dc dp dk ho hc ht x3 hw H.size) (cwV 1 hts gX5_mixRehearsal_X5_bestWith rfl rfl rfl (by decide +kernel) ⟨Nat.le_of_ble_eq_true rfl, Nat.le_of_ble_eq_true rfl⟩) hK hG hP hD hS hA [0, 1, 2, 3, 4, 8, 9, 10, 11] rfl rfl 5 0 rfl rfl rfl hl.1 rfl (Nat.le_of_ble_eq_true rfl) dX5_mixRehearsal_103 ⟨Nat.le_of_ble_eq_true rfl, Nat.le_of_ble_eq_true rfl⟩) hP hD hS hA [0, 1, 2, 3, 4, 8, 9, 10, 11] [5, 6, 7] rfl rfl rfl (by decide) (fun r19 u H locs hw hP hD hS => ?_)
    obtain ⟨ho_20, ht_21⟩ := u
    try dsimp only at hw
    have hP := hP.sub (ws' := (w0_X5_mixRehearsal G qm qd qs qn qk qt qr qx qdb qde qdf qro qrg qxo qxc qxt db de df dc dp dk ro_16 rg_17 ho_20 hc ht_21)) [3, 4, 5, 6, 7, 0, 1, 2, 8, 9, 10, 11] rfl
    have hD := hD.sub (ws' := (w0_X5_mixRehearsal G qm qd qs qn qk qt qr qx qdb qde qdf qro qrg qxo qxc qxt db de df dc dp dk ro_16 rg_17 ho_20 hc ht_21)) [3, 4, 5, 6, 7, 0, 1, 2, 8, 9, 10, 11] rfl rfl
    refine lv_i2l hx hb dX5_mixRehearsal_106 rfl ?_
    refine kcR_l (kr_S [] ⟨hx, hb, hml, hown, hts⟩ (cn_X5_mix l G r18 r19.toInt64 hw H.size) (va_cwS 2 hts gX5_mixRehearsal_X5_mix rfl rfl rfl (by decide +kernel) ⟨Nat.le_of_ble_eq_true rfl, Nat.le_of_ble_eq_true rfl⟩) hK hG hP hD hS hA [] rfl rfl rfl hl.1 rfl (Nat.le_of_ble_eq_true rfl) dX5_mixRehearsal_107 ⟨Nat.le_of_ble_eq_true rfl, Nat.le_of_ble_eq_true rfl⟩) hP hD hS hA [] rfl (fun r22 u H locs hw hP hS => ?_)
    try dsimp only at hw
    exact fin_l (ro_16, rg_17, ho_20, ht_21) hx hb hr hlocks hK hS hP hD hw dX5_mixRehearsal_110
  unfold wn_X5_mixRehearsal at hw
  refine lv_lload_n hx hb dX5_mixRehearsal_0 rfl (lv_at hl 1 rfl) ?_
  refine lv_aload_n hx hb dX5_mixRehearsal_1 rfl (lv_at hl 0 rfl) ?_
  refine lv_iload_n hx hb dX5_mixRehearsal_2 rfl (lv_at hl 2 rfl) ?_
  refine kcR_i (kr_V [.long a1] ⟨hx, hb, hml, hown, hts⟩ (cn_X5_beginOf l G qm qd qs qn qk qt qr qx qdb qde qdf db de df dc dp dk a3 hw H.size) (cwV 1 hts gX5_mixRehearsal_X5_beginOf rfl rfl rfl (by decide +kernel) ⟨Nat.le_of_ble_eq_true rfl, Nat.le_of_ble_eq_true rfl⟩) hK hG hP hD hS hA [0, 1, 2, 3, 4] rfl rfl 5 0 rfl rfl rfl hl.1 rfl (Nat.le_of_ble_eq_true rfl) dX5_mixRehearsal_3 ⟨Nat.le_of_ble_eq_true rfl, Nat.le_of_ble_eq_true rfl⟩) hP hD hS hA [0, 1, 2, 3, 4] rfl (fun r1 u H locs hw hP hS => ?_)
  try dsimp only at hw
  refine lv_i2l hx hb dX5_mixRehearsal_6 rfl ?_
  refine kcR_l (kr_S [] ⟨hx, hb, hml, hown, hts⟩ (cn_X5_mix l G a1 r1.toInt64 hw H.size) (va_cwS 2 hts gX5_mixRehearsal_X5_mix rfl rfl rfl (by decide +kernel) ⟨Nat.le_of_ble_eq_true rfl, Nat.le_of_ble_eq_true rfl⟩) hK hG hP hD hS hA [] rfl rfl rfl hl.1 rfl (Nat.le_of_ble_eq_true rfl) dX5_mixRehearsal_7 ⟨Nat.le_of_ble_eq_true rfl, Nat.le_of_ble_eq_true rfl⟩) hP hD hS hA [] rfl (fun r2 u H locs hw hP hS => ?_)
  try dsimp only at hw
  refine lv_lstore (lv' := [(4, .long r2), (0, .ref qm), (1, .long a1), (3, .int a3)]) hx hb dX5_mixRehearsal_10 hl (by decide) rfl (fun ls hl => ?_)
  refine lv_lload hx hb dX5_mixRehearsal_12 (lv_at hl 0 rfl) ?_
  refine lv_aload_n hx hb dX5_mixRehearsal_14 rfl (lv_at hl 1 rfl) ?_
  refine lv_iload_n hx hb dX5_mixRehearsal_15 rfl (lv_at hl 3 rfl) ?_
  refine kcR_i (kr_V [.long r2] ⟨hx, hb, hml, hown, hts⟩ (cn_X5_endOf l G qm qd qs qn qk qt qr qx qdb qde qdf db de df dc dp dk a3 hw H.size) (cwV 1 hts gX5_mixRehearsal_X5_endOf rfl rfl rfl (by decide +kernel) ⟨Nat.le_of_ble_eq_true rfl, Nat.le_of_ble_eq_true rfl⟩) hK hG hP hD hS hA [0, 1, 2, 3, 4] rfl rfl 5 0 rfl rfl rfl hl.1 rfl (Nat.le_of_ble_eq_true rfl) dX5_mixRehearsal_16 ⟨Nat.le_of_ble_eq_true rfl, Nat.le_of_ble_eq_true rfl⟩) hP hD hS hA [0, 1, 2, 3, 4] rfl (fun r3 u H locs hw hP hS => ?_)
  try dsimp only at hw
  refine lv_i2l hx hb dX5_mixRehearsal_19 rfl ?_
  refine kcR_l (kr_S [] ⟨hx, hb, hml, hown, hts⟩ (cn_X5_mix l G r2 r3.toInt64 hw H.size) (va_cwS 2 hts gX5_mixRehearsal_X5_mix rfl rfl rfl (by decide +kernel) ⟨Nat.le_of_ble_eq_true rfl, Nat.le_of_ble_eq_true rfl⟩) hK hG hP hD hS hA [] rfl rfl rfl hl.1 rfl (Nat.le_of_ble_eq_true rfl) dX5_mixRehearsal_20 ⟨Nat.le_of_ble_eq_true rfl, Nat.le_of_ble_eq_true rfl⟩) hP hD hS hA [] rfl (fun r4 u H locs hw hP hS => ?_)
  try dsimp only at hw
  refine lv_lstore (lv' := [(4, .long r4), (0, .ref qm), (1, .long a1), (3, .int a3)]) hx hb dX5_mixRehearsal_23 hl (by decide) rfl (fun ls hl => ?_)
  refine lv_lload hx hb dX5_mixRehearsal_25 (lv_at hl 0 rfl) ?_
  refine lv_aload_n hx hb dX5_mixRehearsal_27 rfl (lv_at hl 1 rfl) ?_
  refine lv_iload_n hx hb dX5_mixRehearsal_28 rfl (lv_at hl 3 rfl) ?_
  refine kcR_i (kr_V [.long r4] ⟨hx, hb, hml, hown, hts⟩ (cn_X5_fameOf l G qm qd qs qn qk qt qr qx qdb qde qdf db de df dc dp dk a3 hw H.size) (cwV 1 hts gX5_mixRehearsal_X5_fameOf rfl rfl rfl (by decide +kernel) ⟨Nat.le_of_ble_eq_true rfl, Nat.le_of_ble_eq_true rfl⟩) hK hG hP hD hS hA [0, 1, 2, 3, 4] rfl rfl 5 0 rfl rfl rfl hl.1 rfl (Nat.le_of_ble_eq_true rfl) dX5_mixRehearsal_29 ⟨Nat.le_of_ble_eq_true rfl, Nat.le_of_ble_eq_true rfl⟩) hP hD hS hA [0, 1, 2, 3, 4] rfl (fun r5 u H locs hw hP hS => ?_)
  try dsimp only at hw
  refine lv_i2l hx hb dX5_mixRehearsal_32 rfl ?_
  refine kcR_l (kr_S [] ⟨hx, hb, hml, hown, hts⟩ (cn_X5_mix l G r4 r5.toInt64 hw H.size) (va_cwS 2 hts gX5_mixRehearsal_X5_mix rfl rfl rfl (by decide +kernel) ⟨Nat.le_of_ble_eq_true rfl, Nat.le_of_ble_eq_true rfl⟩) hK hG hP hD hS hA [] rfl rfl rfl hl.1 rfl (Nat.le_of_ble_eq_true rfl) dX5_mixRehearsal_33 ⟨Nat.le_of_ble_eq_true rfl, Nat.le_of_ble_eq_true rfl⟩) hP hD hS hA [] rfl (fun r6 u H locs hw hP hS => ?_)
  try dsimp only at hw
  refine lv_lstore (lv' := [(4, .long r6), (0, .ref qm), (1, .long a1), (3, .int a3)]) hx hb dX5_mixRehearsal_36 hl (by decide) rfl (fun ls hl => ?_)
  refine lv_lload hx hb dX5_mixRehearsal_38 (lv_at hl 0 rfl) ?_
  refine lv_aload_n hx hb dX5_mixRehearsal_40 rfl (lv_at hl 1 rfl) ?_
  refine lv_iload_n hx hb dX5_mixRehearsal_41 rfl (lv_at hl 3 rfl) ?_
  refine kcR_f (kr_V [.long r6] ⟨hx, hb, hml, hown, hts⟩ (cn_X5_famePerQuarter l G qm qd qs qn qk qt qr qx qdb qde qdf db de df dc dp dk a3 hw H.size) (cwV 1 hts gX5_mixRehearsal_X5_famePerQuarter rfl rfl rfl (by decide +kernel) ⟨Nat.le_of_ble_eq_true rfl, Nat.le_of_ble_eq_true rfl⟩) hK hG hP hD hS hA [0, 1, 2, 3, 4] rfl rfl 5 0 rfl rfl rfl hl.1 rfl (Nat.le_of_ble_eq_true rfl) dX5_mixRehearsal_42 ⟨Nat.le_of_ble_eq_true rfl, Nat.le_of_ble_eq_true rfl⟩) hP hD hS hA [0, 1, 2, 3, 4] rfl (fun r7 u H locs hw hP hS => ?_)
  try dsimp only at hw
  refine kcR_l (kr_S [.long r6] ⟨hx, hb, hml, hown, hts⟩ (cn_X5_floatBits l G r7 hw H.size) (va_cwS 1 hts gX5_mixRehearsal_X5_floatBits rfl rfl rfl (by decide +kernel) ⟨Nat.le_of_ble_eq_true rfl, Nat.le_of_ble_eq_true rfl⟩) hK hG hP hD hS hA [] rfl rfl rfl hl.1 rfl (Nat.le_of_ble_eq_true rfl) dX5_mixRehearsal_45 ⟨Nat.le_of_ble_eq_true rfl, Nat.le_of_ble_eq_true rfl⟩) hP hD hS hA [] rfl (fun r8 u H locs hw hP hS => ?_)
  try dsimp only at hw
  refine kcR_l (kr_S [] ⟨hx, hb, hml, hown, hts⟩ (cn_X5_mix l G r6 r8 hw H.size) (va_cwS 2 hts gX5_mixRehearsal_X5_mix rfl rfl rfl (by decide +kernel) ⟨Nat.le_of_ble_eq_true rfl, Nat.le_of_ble_eq_true rfl⟩) hK hG hP hD hS hA [] rfl rfl rfl hl.1 rfl (Nat.le_of_ble_eq_true rfl) dX5_mixRehearsal_48 ⟨Nat.le_of_ble_eq_true rfl, Nat.le_of_ble_eq_true rfl⟩) hP hD hS hA [] rfl (fun r9 u H locs hw hP hS => ?_)
  try dsimp only at hw
  refine lv_lstore (lv' := [(4, .long r9), (0, .ref qm), (1, .long a1), (3, .int a3)]) hx hb dX5_mixRehearsal_51 hl (by decide) rfl (fun ls hl => ?_)
  refine lv_lload hx hb dX5_mixRehearsal_53 (lv_at hl 0 rfl) ?_
  refine lv_aload_n hx hb dX5_mixRehearsal_55 rfl (lv_at hl 1 rfl) ?_
  refine lv_iload_n hx hb dX5_mixRehearsal_56 rfl (lv_at hl 3 rfl) ?_
  refine kcR_i (kr_V [.long r9] ⟨hx, hb, hml, hown, hts⟩ (cn_X5_isBooked l G qm qd qs qn qk qt qr qx qdb qde qdf db de df dc dp dk a3 hw H.size) (cwV 1 hts gX5_mixRehearsal_X5_isBooked rfl rfl rfl (by decide +kernel) ⟨Nat.le_of_ble_eq_true rfl, Nat.le_of_ble_eq_true rfl⟩) hK hG hP hD hS hA [0, 1, 2, 3, 4] rfl rfl 5 0 rfl rfl rfl hl.1 rfl (Nat.le_of_ble_eq_true rfl) dX5_mixRehearsal_57 ⟨Nat.le_of_ble_eq_true rfl, Nat.le_of_ble_eq_true rfl⟩) hP hD hS hA [0, 1, 2, 3, 4] rfl (fun r10 u H locs hw hP hS => ?_)
  try dsimp only at hw
  obtain ⟨hz_r10, hw⟩ := hw
  refine lv_if_eq (tgt := 67) hx hb dX5_mixRehearsal_60 (by decide) (fun cd11 => ?_) (fun cd11 => ?_)
  · have hw := hw.1 cd11
    refine lv_lconst (v := 0) hx hb dX5_mixRehearsal_67 (by decide) ?_
    exact J68 ro rg ho ht a1 a3 r9 r9 (0 : Int64) _ _ _ hP hD hS (lv_sub hl [1, 2, 3, 0] rfl) hw
  · have hw := hw.2 cd11
    refine lv_lconst (v := 1) hx hb dX5_mixRehearsal_63 (by decide) ?_
    refine lv_goto (tgt := 68) hx hb dX5_mixRehearsal_64 (by decide) ?_
    exact J68 ro rg ho ht a1 a3 r9 r9 (1 : Int64) _ _ _ hP hD hS (lv_sub hl [1, 2, 3, 0] rfl) hw

abbrev w0_X5_digest (G : mG) (qm : Nat) (qd : Nat) (qs : Nat) (qn : Nat) (qk : Nat) (qt : Nat) (qr : Nat) (qx : Nat) (qdb : Nat) (qde : Nat) (qdf : Nat) (qsa : Nat) (qs0 : Nat) (qs0b : Nat) (qs0e : Nat) (qs0f : Nat) (qs1 : Nat) (qs1b : Nat) (qs1e : Nat) (qs1f : Nat) (qs2 : Nat) (qs2b : Nat) (qs2e : Nat) (qs2f : Nat) (qs3 : Nat) (qs3b : Nat) (qs3e : Nat) (qs3f : Nat) (qs4 : Nat) (qs4b : Nat) (qs4e : Nat) (qs4f : Nat) (qs5 : Nat) (qs5b : Nat) (qs5e : Nat) (qs5f : Nat) (qtc : Nat) (qtn : Nat) (qro : Nat) (qrg : Nat) (qxo : Nat) (qxc : Nat) (qxt : Nat) (db : Nat → Int32) (de : Nat → Int32) (df : Nat → Int32) (dc : Int32) (dp : Int32) (dk : Int32) (so : Int32) (sn : Int32) (sb : Nat → Nat → Int32) (se : Nat → Nat → Int32) (sf : Nat → Nat → Int32) (sc : Nat → Int32) (sp : Nat → Int32) (sk : Nat → Int32) (tk : Nat → Int32) (tc : Nat → Int32) (tl : Int32) (tn : Nat → Int32) (tf : Int32) (tv : Int32) (ro : Nat → Int32) (rg : Nat → Int32) (ho : Nat → Int32) (hc : Nat → Int32) (ht : Nat → Int32) : va_W := [(qm, .inr (5, [.ref qd, .ref qs, .ref qn, .ref qk, .ref qt, .ref qr, .ref qx])), (qd, .inr (1, [.ref qdb, .ref qde, .ref qdf, .int dc, .int dp, .int dk])), (qdb, .inl (gI G, (14, .inl db))), (qde, .inl (gI G, (14, .inl de))), (qdf, .inl (gI G, (14, .inl df))), (qs, .inr (3, [.ref qsa, .int so, .int sn])), (qsa, .inl (gQ G, (6, .inr (.inr (.inr (.inr (g6 qs0 qs1 qs2 qs3 qs4 qs5))))))), (qs0, .inr (1, [.ref qs0b, .ref qs0e, .ref qs0f, .int (sc 0), .int (sp 0), .int (sk 0)])), (qs0b, .inl (gI G, (14, .inl (sb 0)))), (qs0e, .inl (gI G, (14, .inl (se 0)))), (qs0f, .inl (gI G, (14, .inl (sf 0)))), (qs1, .inr (1, [.ref qs1b, .ref qs1e, .ref qs1f, .int (sc 1), .int (sp 1), .int (sk 1)])), (qs1b, .inl (gI G, (14, .inl (sb 1)))), (qs1e, .inl (gI G, (14, .inl (se 1)))), (qs1f, .inl (gI G, (14, .inl (sf 1)))), (qs2, .inr (1, [.ref qs2b, .ref qs2e, .ref qs2f, .int (sc 2), .int (sp 2), .int (sk 2)])), (qs2b, .inl (gI G, (14, .inl (sb 2)))), (qs2e, .inl (gI G, (14, .inl (se 2)))), (qs2f, .inl (gI G, (14, .inl (sf 2)))), (qs3, .inr (1, [.ref qs3b, .ref qs3e, .ref qs3f, .int (sc 3), .int (sp 3), .int (sk 3)])), (qs3b, .inl (gI G, (14, .inl (sb 3)))), (qs3e, .inl (gI G, (14, .inl (se 3)))), (qs3f, .inl (gI G, (14, .inl (sf 3)))), (qs4, .inr (1, [.ref qs4b, .ref qs4e, .ref qs4f, .int (sc 4), .int (sp 4), .int (sk 4)])), (qs4b, .inl (gI G, (14, .inl (sb 4)))), (qs4e, .inl (gI G, (14, .inl (se 4)))), (qs4f, .inl (gI G, (14, .inl (sf 4)))), (qs5, .inr (1, [.ref qs5b, .ref qs5e, .ref qs5f, .int (sc 5), .int (sp 5), .int (sk 5)])), (qs5b, .inl (gI G, (14, .inl (sb 5)))), (qs5e, .inl (gI G, (14, .inl (se 5)))), (qs5f, .inl (gI G, (14, .inl (sf 5)))), (qk, .inl (gZ G, (2, .inl tk))), (qt, .inr (4, [.ref qtc, .int tl, .ref qtn, .int tf, .int tv])), (qtc, .inl (gI G, (60, .inl tc))), (qtn, .inl (gI G, (60, .inl tn))), (qr, .inr (2, [.ref qro, .ref qrg])), (qro, .inl (gI G, (14, .inl ro))), (qrg, .inl (gI G, (14, .inl rg))), (qx, .inr (0, [.ref qxo, .ref qxc, .ref qxt])), (qxo, .inl (gI G, (14, .inl ho))), (qxc, .inl (gI G, (14, .inl hc))), (qxt, .inl (gI G, (15, .inl ht)))]
set_option maxRecDepth 100000 in
theorem k_X5_digest_c231 : Cond.constantLong RX5 231 (4327) ∈ wsX5_digest := by decide +kernel
set_option maxRecDepth 100000 in
theorem k_X5_digest_inX5 : ∀ w ∈ u_ws RX5 TX5 7, w ∈ wsX5_digest := by decide +kernel
set_option maxRecDepth 100000 in
theorem k_X5_digest_f10 : Cond.fieldLink RX5 10 "RehearsalRoom" "day" "LRehearsalRoom$Day;" ∈ wsX5_digest := by decide +kernel
set_option maxRecDepth 100000 in
theorem k_X5_digest_inX1 : ∀ w ∈ u_ws RX1 TX1 6, w ∈ wsX5_digest := by decide +kernel
set_option maxRecDepth 100000 in
theorem k_X5_digest_f71 : Cond.fieldLink RX5 71 "RehearsalRoom$Day" "count" "I" ∈ wsX5_digest := by decide +kernel
set_option maxRecDepth 100000 in
theorem k_X5_digest_f34 : Cond.fieldLink RX5 34 "RehearsalRoom" "buffer" "LRehearsalRoom$Text;" ∈ wsX5_digest := by decide +kernel
set_option maxRecDepth 100000 in
theorem k_X5_digest_inX4 : ∀ w ∈ u_ws RX4 TX4 5, w ∈ wsX5_digest := by decide +kernel
set_option maxRecDepth 100000 in
theorem k_X5_digest_f150 : Cond.fieldLink RX5 150 "RehearsalRoom$Text" "length" "I" ∈ wsX5_digest := by decide +kernel
set_option maxRecDepth 100000 in
theorem k_X5_digest_f248 : Cond.fieldLink RX5 248 "RehearsalRoom$Text" "codes" "[I" ∈ wsX5_digest := by decide +kernel
set_option maxRecDepth 100000 in
theorem k_X5_digest_f27 : Cond.fieldLink RX5 27 "RehearsalRoom" "taken" "[Z" ∈ wsX5_digest := by decide +kernel
set_option maxHeartbeats 8000000 in
set_option maxRecDepth 100000 in
theorem cn_X5_digest (l : Launch) (G : mG) (qm : Nat) (qd : Nat) (qs : Nat) (qn : Nat) (qk : Nat) (qt : Nat) (qr : Nat) (qx : Nat) (qdb : Nat) (qde : Nat) (qdf : Nat) (qsa : Nat) (qs0 : Nat) (qs0b : Nat) (qs0e : Nat) (qs0f : Nat) (qs1 : Nat) (qs1b : Nat) (qs1e : Nat) (qs1f : Nat) (qs2 : Nat) (qs2b : Nat) (qs2e : Nat) (qs2f : Nat) (qs3 : Nat) (qs3b : Nat) (qs3e : Nat) (qs3f : Nat) (qs4 : Nat) (qs4b : Nat) (qs4e : Nat) (qs4f : Nat) (qs5 : Nat) (qs5b : Nat) (qs5e : Nat) (qs5f : Nat) (qtc : Nat) (qtn : Nat) (qro : Nat) (qrg : Nat) (qxo : Nat) (qxc : Nat) (qxt : Nat) (db : Nat → Int32) (de : Nat → Int32) (df : Nat → Int32) (dc : Int32) (dp : Int32) (dk : Int32) (so : Int32) (sn : Int32) (sb : Nat → Nat → Int32) (se : Nat → Nat → Int32) (sf : Nat → Nat → Int32) (sc : Nat → Int32) (sp : Nat → Int32) (sk : Nat → Int32) (tk : Nat → Int32) (tc : Nat → Int32) (tl : Int32) (tn : Nat → Int32) (tf : Int32) (tv : Int32) (ro : Nat → Int32) (rg : Nat → Int32) (ho : Nat → Int32) (hc : Nat → Int32) (ht : Nat → Int32) {Q : Int64 → (Nat → Int32) → (Nat → Int32) → (Nat → Int32) → (Nat → Int32) → (Nat → Int32) → Prop} (hw : wn_X5_digest db de df dc dp dk sn tk tc tl ro rg ho hc ht Q) (sz : Nat) :
    Met l yX5_digest wsX5_digest ({ frames := 22, cells := 0, slots := 0, locals := 568 } : Room) (va_Pc [.ref qm] (mPre G (w0_X5_digest G qm qd qs qn qk qt qr qx qdb qde qdf qsa qs0 qs0b qs0e qs0f qs1 qs1b qs1e qs1f qs2 qs2b qs2e qs2f qs3 qs3b qs3e qs3f qs4 qs4b qs4e qs4f qs5 qs5b qs5e qs5f qtc qtn qro qrg qxo qxc qxt db de df dc dp dk so sn sb se sf sc sp sk tk tc tl tn tf tv ro rg ho hc ht) sz)) (va_Ql (fun (r : Int64) (u : (Nat → Int32) × (Nat → Int32) × (Nat → Int32) × (Nat → Int32) × (Nat → Int32)) => Q r u.1 u.2.1 u.2.2.1 u.2.2.2.1 u.2.2.2.2) (mBk G (va_A (w0_X5_digest G qm qd qs qn qk qt qr qx qdb qde qdf qsa qs0 qs0b qs0e qs0f qs1 qs1b qs1e qs1f qs2 qs2b qs2e qs2f qs3 qs3b qs3e qs3f qs4 qs4b qs4e qs4f qs5 qs5b qs5e qs5f qtc qtn qro qrg qxo qxc qxt db de df dc dp dk so sn sb se sf sc sp sk tk tc tl tn tf tv ro rg ho hc ht) sz) (fun (u : (Nat → Int32) × (Nat → Int32) × (Nat → Int32) × (Nat → Int32) × (Nat → Int32)) => (w0_X5_digest G qm qd qs qn qk qt qr qx qdb qde qdf qsa qs0 qs0b qs0e qs0f qs1 qs1b qs1e qs1f qs2 qs2b qs2e qs2f qs3 qs3b qs3e qs3f qs4 qs4b qs4e qs4f qs5 qs5b qs5e qs5f qtc qtn qro qrg qxo qxc qxt db de df dc dp dk so sn sb se sf sc sp sk tk tc tl tn tf tv u.1 u.2.1 u.2.2.1 u.2.2.2.1 u.2.2.2.2))) (va_A (w0_X5_digest G qm qd qs qn qk qt qr qx qdb qde qdf qsa qs0 qs0b qs0e qs0f qs1 qs1b qs1e qs1f qs2 qs2b qs2e qs2f qs3 qs3b qs3e qs3f qs4 qs4b qs4e qs4f qs5 qs5b qs5e qs5f qtc qtn qro qrg qxo qxc qxt db de df dc dp dk so sn sb se sf sc sp sk tk tc tl tn tf tv ro rg ho hc ht) sz)) 0 0 (va_A (w0_X5_digest G qm qd qs qn qk qt qr qx qdb qde qdf qsa qs0 qs0b qs0e qs0f qs1 qs1b qs1e qs1f qs2 qs2b qs2e qs2f qs3 qs3b qs3e qs3f qs4 qs4b qs4e qs4f qs5 qs5b qs5e qs5f qtc qtn qro qrg qxo qxc qxt db de df dc dp dk so sn sb se sf sc sp sk tk tc tl tn tf tv ro rg ho hc ht) sz) := by
  refine ms_l (cc := cX5_digest) (maxL := 4) (ret := some .long) (post := (fun (r : Int64) (u : (Nat → Int32) × (Nat → Int32) × (Nat → Int32) × (Nat → Int32) × (Nat → Int32)) => Q r u.1 u.2.1 u.2.2.1 u.2.2.2.1 u.2.2.2.2)) (w1 := (fun (u : (Nat → Int32) × (Nat → Int32) × (Nat → Int32) × (Nat → Int32) × (Nat → Int32)) => (w0_X5_digest G qm qd qs qn qk qt qr qx qdb qde qdf qsa qs0 qs0b qs0e qs0f qs1 qs1b qs1e qs1f qs2 qs2b qs2e qs2f qs3 qs3b qs3e qs3f qs4 qs4b qs4e qs4f qs5 qs5b qs5e qs5f qtc qtn qro qrg qxo qxc qxt db de df dc dp dk so sn sb se sf sc sp sk tk tc tl tn tf tv u.1 u.2.1 u.2.2.1 u.2.2.2.1 u.2.2.2.2))) (by decide) rfl (Nat.le_of_ble_eq_true rfl) ?_ sz
  intro p e s m below meth c A ls H locs hx hb hr hml hown hts hlocks hK hG hP hD hS hA hl
  have hown : s.vm.findClass RX5 = some m.cls := hown
  have hl : lv_has ls 4 [(0, .ref qm)] := hl
  have J91 : ∀ (n : Nat) (ro : Nat → Int32) (rg : Nat → Int32) (ho : Nat → Int32) (hc : Nat → Int32) (ht : Nat → Int32) (x1 : Int64) (x3 : Int32) (H : Heap) (locs : List Loc) (ls : Array Slot), va_P (gD G) vwCl (w0_X5_digest G qm qd qs qn qk qt qr qx qdb qde qdf qsa qs0 qs0b qs0e qs0f qs1 qs1b qs1e qs1f qs2 qs2b qs2e qs2f qs3 qs3b qs3e qs3f qs4 qs4b qs4e qs4f qs5 qs5b qs5e qs5f qtc qtn qro qrg qxo qxc qxt db de df dc dp dk so sn sb se sf sc sp sk tk tc tl tn tf tv ro rg ho hc ht) H → va_D A (w0_X5_digest G qm qd qs qn qk qt qr qx qdb qde qdf qsa qs0 qs0b qs0e qs0f qs1 qs1b qs1e qs1f qs2 qs2b qs2e qs2f qs3 qs3b qs3e qs3f qs4 qs4b qs4e qs4f qs5 qs5b qs5e qs5f qtc qtn qro qrg qxo qxc qxt db de df dc dp dk so sn sb se sf sc sp sk tk tc tl tn tf tv ro rg ho hc ht) → va_S A s.heap H locs → lv_has ls 4 [(0, .ref qm), (1, .long x1), (3, .int x3)] → wl_n_X5_digest_91 db de df dc dp dk sn tk tc tl Q n ro rg ho hc ht x1 x3 → W p l e ({ frames := 22, cells := 0, slots := 0, locals := 568 } : Room) s m ([.ref qm] : List Value).toArray below meth c H locs 0 0 (MQ below (va_Ql (fun (r : Int64) (u : (Nat → Int32) × (Nat → Int32) × (Nat → Int32) × (Nat → Int32) × (Nat → Int32)) => Q r u.1 u.2.1 u.2.2.1 u.2.2.2.1 u.2.2.2.2) (mBk G A (fun (u : (Nat → Int32) × (Nat → Int32) × (Nat → Int32) × (Nat → Int32) × (Nat → Int32)) => (w0_X5_digest G qm qd qs qn qk qt qr qx qdb qde qdf qsa qs0 qs0b qs0e qs0f qs1 qs1b qs1e qs1f qs2 qs2b qs2e qs2f qs3 qs3b qs3e qs3f qs4 qs4b qs4e qs4f qs5 qs5b qs5e qs5f qtc qtn qro qrg qxo qxc qxt db de df dc dp dk so sn sb se sf sc sp sk tk tc tl tn tf tv u.1 u.2.1 u.2.2.1 u.2.2.2.1 u.2.2.2.2))) A) ([.ref qm] : List Value).toArray s 0 0 A) (F0 m 91 ls []) := by
    intro n
    induction n with
    | zero => intro ro rg ho hc ht x1 x3 H locs ls hP hD hS hl hw; exact False.elim hw
    | succ n ih =>
      intro ro rg ho hc ht x1 x3 H locs ls hP hD hS hl hw
      rw [wl_n_X5_digest_91] at hw
      refine lv_iload_n hx hb dX5_digest_91 rfl (lv_at hl 2 rfl) ?_
      refine lv_aload_n hx hb dX5_digest_92 rfl (lv_at hl 0 rfl) ?_
      refine va_get (D := gD G) (ci := 5) (v := .ref qt) (C := RX5) (T := TX5) (N := 7) hx hb hts k_X5_digest_inX5 hown hK hP 0 rfl rfl 4 (by decide) (hts _ k_X5_digest_f34) (fun _ h9 => h9) rfl dX5_digest_93 ?_
      refine va_get (D := gD G) (ci := 4) (v := .int tl) (C := RX4) (T := TX4) (N := 5) hx hb hts k_X5_digest_inX4 hown hK hP 32 rfl rfl 1 (by decide) (hts _ k_X5_digest_f150) (fun _ h9 => h9) rfl dX5_digest_96 ?_
      refine lv_icmp_ge (tgt := 123) hx hb dX5_digest_99 (by decide) (fun cd12 => ?_) (fun cd12 => ?_)
      · have hw := hw.1 cd12
        refine lv_lload_n hx hb dX5_digest_123 rfl (lv_at hl 1 rfl) ?_
        exact fin_l (ro, rg, ho, hc, ht) hx hb hr hlocks hK hS hP hD hw dX5_digest_124
      · have hw := hw.2 cd12
        refine lv_lload_n hx hb dX5_digest_102 rfl (lv_at hl 1 rfl) ?_
        refine lv_aload_n hx hb dX5_digest_103 rfl (lv_at hl 0 rfl) ?_
        refine va_get (D := gD G) (ci := 5) (v := .ref qt) (C := RX5) (T := TX5) (N := 7) hx hb hts k_X5_digest_inX5 hown hK hP 0 rfl rfl 4 (by decide) (hts _ k_X5_digest_f34) (fun _ h9 => h9) rfl dX5_digest_104 ?_
        refine va_get (D := gD G) (ci := 4) (v := .ref qtc) (C := RX4) (T := TX4) (N := 5) hx hb hts k_X5_digest_inX4 hown hK hP 32 rfl rfl 0 (by decide) (hts _ k_X5_digest_f248) (fun _ h9 => h9) rfl dX5_digest_107 ?_
        refine lv_iload_n hx hb dX5_digest_110 rfl (lv_at hl 2 rfl) ?_
        obtain ⟨h13, hw⟩ := hw
        refine va_iald hx hb hK hP 33 0 rfl rfl h13 dX5_digest_111 ?_
        refine lv_i2l hx hb dX5_digest_112 rfl ?_
        refine kcR_l (kr_S [] ⟨hx, hb, hml, hown, hts⟩ (cn_X5_mix l G x1 ((tc x3.toNatClampNeg).toInt64) hw H.size) (va_cwS 2 hts gX5_digest_X5_mix rfl rfl rfl (by decide +kernel) ⟨Nat.le_of_ble_eq_true rfl, Nat.le_of_ble_eq_true rfl⟩) hK hG hP hD hS hA [] rfl rfl rfl hl.1 rfl (Nat.le_of_ble_eq_true rfl) dX5_digest_113 ⟨Nat.le_of_ble_eq_true rfl, Nat.le_of_ble_eq_true rfl⟩) hP hD hS hA [] rfl (fun r14 u H locs hw hP hS => ?_)
        try dsimp only at hw
        refine lv_lstore_n (lv' := [(1, .long r14), (0, .ref qm), (3, .int x3)]) hx hb dX5_digest_116 rfl hl (by decide) rfl (fun ls hl => ?_)
        refine lv_iinc (v := (x3 + 1)) (lv' := [(3, .int (x3 + 1)), (1, .long r14), (0, .ref qm)]) hx hb dX5_digest_117 hl (k := 2) rfl rfl (by decide) rfl (fun ls hl => ?_)
        refine lv_goto (tgt := 91) hx hb dX5_digest_120 (by decide) ?_
        exact ih ro rg ho hc ht r14 (x3 + 1) _ _ _ hP hD hS (lv_sub hl [2, 1, 0] rfl) hw
  have J66 : ∀ (k46 : (Nat → Int32) → (Nat → Int32) → (Nat → Int32) → (Nat → Int32) → (Nat → Int32) → Int64 → Int32 → Prop) (hk46 : ∀ (ro : Nat → Int32) (rg : Nat → Int32) (ho : Nat → Int32) (hc : Nat → Int32) (ht : Nat → Int32) (x1 : Int64) (x3 : Int32) (H : Heap) (locs : List Loc) (ls : Array Slot), va_P (gD G) vwCl (w0_X5_digest G qm qd qs qn qk qt qr qx qdb qde qdf qsa qs0 qs0b qs0e qs0f qs1 qs1b qs1e qs1f qs2 qs2b qs2e qs2f qs3 qs3b qs3e qs3f qs4 qs4b qs4e qs4f qs5 qs5b qs5e qs5f qtc qtn qro qrg qxo qxc qxt db de df dc dp dk so sn sb se sf sc sp sk tk tc tl tn tf tv ro rg ho hc ht) H → va_D A (w0_X5_digest G qm qd qs qn qk qt qr qx qdb qde qdf qsa qs0 qs0b qs0e qs0f qs1 qs1b qs1e qs1f qs2 qs2b qs2e qs2f qs3 qs3b qs3e qs3f qs4 qs4b qs4e qs4f qs5 qs5b qs5e qs5f qtc qtn qro qrg qxo qxc qxt db de df dc dp dk so sn sb se sf sc sp sk tk tc tl tn tf tv ro rg ho hc ht) → va_S A s.heap H locs → lv_has ls 4 [(0, .ref qm), (1, .long x1), (3, .int x3)] → k46 ro rg ho hc ht x1 x3 → W p l e ({ frames := 22, cells := 0, slots := 0, locals := 568 } : Room) s m ([.ref qm] : List Value).toArray below meth c H locs 0 0 (MQ below (va_Ql (fun (r : Int64) (u : (Nat → Int32) × (Nat → Int32) × (Nat → Int32) × (Nat → Int32) × (Nat → Int32)) => Q r u.1 u.2.1 u.2.2.1 u.2.2.2.1 u.2.2.2.2) (mBk G A (fun (u : (Nat → Int32) × (Nat → Int32) × (Nat → Int32) × (Nat → Int32) × (Nat → Int32)) => (w0_X5_digest G qm qd qs qn qk qt qr qx qdb qde qdf qsa qs0 qs0b qs0e qs0f qs1 qs1b qs1e qs1f qs2 qs2b qs2e qs2f qs3 qs3b qs3e qs3f qs4 qs4b qs4e qs4f qs5 qs5b qs5e qs5f qtc qtn qro qrg qxo qxc qxt db de df dc dp dk so sn sb se sf sc sp sk tk tc tl tn tf tv u.1 u.2.1 u.2.2.1 u.2.2.2.1 u.2.2.2.2))) A) ([.ref qm] : List Value).toArray s 0 0 A) (F0 m 46 ls [])) (ro : Nat → Int32) (rg : Nat → Int32) (ho : Nat → Int32) (hc : Nat → Int32) (ht : Nat → Int32) (x1 : Int64) (x3 : Int32) (y0 : Int64) (y1 : Int64) (H : Heap) (locs : List Loc) (ls : Array Slot), va_P (gD G) vwCl (w0_X5_digest G qm qd qs qn qk qt qr qx qdb qde qdf qsa qs0 qs0b qs0e qs0f qs1 qs1b qs1e qs1f qs2 qs2b qs2e qs2f qs3 qs3b qs3e qs3f qs4 qs4b qs4e qs4f qs5 qs5b qs5e qs5f qtc qtn qro qrg qxo qxc qxt db de df dc dp dk so sn sb se sf sc sp sk tk tc tl tn tf tv ro rg ho hc ht) H → va_D A (w0_X5_digest G qm qd qs qn qk qt qr qx qdb qde qdf qsa qs0 qs0b qs0e qs0f qs1 qs1b qs1e qs1f qs2 qs2b qs2e qs2f qs3 qs3b qs3e qs3f qs4 qs4b qs4e qs4f qs5 qs5b qs5e qs5f qtc qtn qro qrg qxo qxc qxt db de df dc dp dk so sn sb se sf sc sp sk tk tc tl tn tf tv ro rg ho hc ht) → va_S A s.heap H locs → lv_has ls 4 [(0, .ref qm), (1, .long x1), (3, .int x3)] → wj_n_X5_digest_66 db de df dc dp dk sn tk tc tl Q k46 ro rg ho hc ht x1 x3 y0 y1 → W p l e ({ frames := 22, cells := 0, slots := 0, locals := 568 } : Room) s m ([.ref qm] : List Value).toArray below meth c H locs 0 0 (MQ below (va_Ql (fun (r : Int64) (u : (Nat → Int32) × (Nat → Int32) × (Nat → Int32) × (Nat → Int32) × (Nat → Int32)) => Q r u.1 u.2.1 u.2.2.1 u.2.2.2.1 u.2.2.2.2) (mBk G A (fun (u : (Nat → Int32) × (Nat → Int32) × (Nat → Int32) × (Nat → Int32) × (Nat → Int32)) => (w0_X5_digest G qm qd qs qn qk qt qr qx qdb qde qdf qsa qs0 qs0b qs0e qs0f qs1 qs1b qs1e qs1f qs2 qs2b qs2e qs2f qs3 qs3b qs3e qs3f qs4 qs4b qs4e qs4f qs5 qs5b qs5e qs5f qtc qtn qro qrg qxo qxc qxt db de df dc dp dk so sn sb se sf sc sp sk tk tc tl tn tf tv u.1 u.2.1 u.2.2.1 u.2.2.2.1 u.2.2.2.2))) A) ([.ref qm] : List Value).toArray s 0 0 A) (F0 m 66 ls [.long y1, .long y0]) := by
    intro k46 hk46 ro rg ho hc ht x1 x3 y0 y1 H locs ls hP hD hS hl hw
    unfold wj_n_X5_digest_66 at hw
    refine kcR_l (kr_S [] ⟨hx, hb, hml, hown, hts⟩ (cn_X5_mix l G y0 y1 hw H.size) (va_cwS 2 hts gX5_digest_X5_mix rfl rfl rfl (by decide +kernel) ⟨Nat.le_of_ble_eq_true rfl, Nat.le_of_ble_eq_true rfl⟩) hK hG hP hD hS hA [] rfl rfl rfl hl.1 rfl (Nat.le_of_ble_eq_true rfl) dX5_digest_66 ⟨Nat.le_of_ble_eq_true rfl, Nat.le_of_ble_eq_true rfl⟩) hP hD hS hA [] rfl (fun r17 u H locs hw hP hS => ?_)
    try dsimp only at hw
    refine lv_lstore_n (lv' := [(1, .long r17), (0, .ref qm), (3, .int x3)]) hx hb dX5_digest_69 rfl hl (by decide) rfl (fun ls hl => ?_)
    refine lv_iinc (v := (x3 + 1)) (lv' := [(3, .int (x3 + 1)), (1, .long r17), (0, .ref qm)]) hx hb dX5_digest_70 hl (k := 2) rfl rfl (by decide) rfl (fun ls hl => ?_)
    refine lv_goto (tgt := 46) hx hb dX5_digest_73 (by decide) ?_
    exact hk46 ro rg ho hc ht r17 (x3 + 1) _ _ _ hP hD hS (lv_sub hl [2, 1, 0] rfl) hw
  have J46 : ∀ (n : Nat) (ro : Nat → Int32) (rg : Nat → Int32) (ho : Nat → Int32) (hc : Nat → Int32) (ht : Nat → Int32) (x1 : Int64) (x3 : Int32) (H : Heap) (locs : List Loc) (ls : Array Slot), va_P (gD G) vwCl (w0_X5_digest G qm qd qs qn qk qt qr qx qdb qde qdf qsa qs0 qs0b qs0e qs0f qs1 qs1b qs1e qs1f qs2 qs2b qs2e qs2f qs3 qs3b qs3e qs3f qs4 qs4b qs4e qs4f qs5 qs5b qs5e qs5f qtc qtn qro qrg qxo qxc qxt db de df dc dp dk so sn sb se sf sc sp sk tk tc tl tn tf tv ro rg ho hc ht) H → va_D A (w0_X5_digest G qm qd qs qn qk qt qr qx qdb qde qdf qsa qs0 qs0b qs0e qs0f qs1 qs1b qs1e qs1f qs2 qs2b qs2e qs2f qs3 qs3b qs3e qs3f qs4 qs4b qs4e qs4f qs5 qs5b qs5e qs5f qtc qtn qro qrg qxo qxc qxt db de df dc dp dk so sn sb se sf sc sp sk tk tc tl tn tf tv ro rg ho hc ht) → va_S A s.heap H locs → lv_has ls 4 [(0, .ref qm), (1, .long x1), (3, .int x3)] → wl_n_X5_digest_46 db de df dc dp dk sn tk tc tl Q n ro rg ho hc ht x1 x3 → W p l e ({ frames := 22, cells := 0, slots := 0, locals := 568 } : Room) s m ([.ref qm] : List Value).toArray below meth c H locs 0 0 (MQ below (va_Ql (fun (r : Int64) (u : (Nat → Int32) × (Nat → Int32) × (Nat → Int32) × (Nat → Int32) × (Nat → Int32)) => Q r u.1 u.2.1 u.2.2.1 u.2.2.2.1 u.2.2.2.2) (mBk G A (fun (u : (Nat → Int32) × (Nat → Int32) × (Nat → Int32) × (Nat → Int32) × (Nat → Int32)) => (w0_X5_digest G qm qd qs qn qk qt qr qx qdb qde qdf qsa qs0 qs0b qs0e qs0f qs1 qs1b qs1e qs1f qs2 qs2b qs2e qs2f qs3 qs3b qs3e qs3f qs4 qs4b qs4e qs4f qs5 qs5b qs5e qs5f qtc qtn qro qrg qxo qxc qxt db de df dc dp dk so sn sb se sf sc sp sk tk tc tl tn tf tv u.1 u.2.1 u.2.2.1 u.2.2.2.1 u.2.2.2.2))) A) ([.ref qm] : List Value).toArray s 0 0 A) (F0 m 46 ls []) := by
    intro n
    induction n with
    | zero => intro ro rg ho hc ht x1 x3 H locs ls hP hD hS hl hw; exact False.elim hw
    | succ n ih =>
      intro ro rg ho hc ht x1 x3 H locs ls hP hD hS hl hw
      rw [wl_n_X5_digest_46] at hw
      refine lv_iload_n hx hb dX5_digest_46 rfl (lv_at hl 2 rfl) ?_
      refine lv_iconst (v := 2) hx hb dX5_digest_47 (by decide) ?_
      refine lv_icmp_ge (tgt := 76) hx hb dX5_digest_48 (by decide) (fun cd10 => ?_) (fun cd10 => ?_)
      · have hw := hw.1 cd10
        refine lv_lload_n hx hb dX5_digest_76 rfl (lv_at hl 1 rfl) ?_
        refine lv_aload_n hx hb dX5_digest_77 rfl (lv_at hl 0 rfl) ?_
        refine va_get (D := gD G) (ci := 5) (v := .ref qt) (C := RX5) (T := TX5) (N := 7) hx hb hts k_X5_digest_inX5 hown hK hP 0 rfl rfl 4 (by decide) (hts _ k_X5_digest_f34) (fun _ h9 => h9) rfl dX5_digest_78 ?_
        refine va_get (D := gD G) (ci := 4) (v := .int tl) (C := RX4) (T := TX4) (N := 5) hx hb hts k_X5_digest_inX4 hown hK hP 32 rfl rfl 1 (by decide) (hts _ k_X5_digest_f150) (fun _ h9 => h9) rfl dX5_digest_81 ?_
        refine lv_i2l hx hb dX5_digest_84 rfl ?_
        refine kcR_l (kr_S [] ⟨hx, hb, hml, hown, hts⟩ (cn_X5_mix l G x1 tl.toInt64 hw H.size) (va_cwS 2 hts gX5_digest_X5_mix rfl rfl rfl (by decide +kernel) ⟨Nat.le_of_ble_eq_true rfl, Nat.le_of_ble_eq_true rfl⟩) hK hG hP hD hS hA [] rfl rfl rfl hl.1 rfl (Nat.le_of_ble_eq_true rfl) dX5_digest_85 ⟨Nat.le_of_ble_eq_true rfl, Nat.le_of_ble_eq_true rfl⟩) hP hD hS hA [] rfl (fun r11 u H locs hw hP hS => ?_)
        try dsimp only at hw
        refine lv_lstore_n (lv' := [(1, .long r11), (0, .ref qm), (3, .int x3)]) hx hb dX5_digest_88 rfl hl (by decide) rfl (fun ls hl => ?_)
        refine lv_iconst (v := 0) hx hb dX5_digest_89 (by decide) ?_
        refine lv_istore_n (lv' := [(3, .int (0 : Int32)), (1, .long r11), (0, .ref qm)]) hx hb dX5_digest_90 rfl hl (by decide) rfl (fun ls hl => ?_)
        obtain ⟨n91, hw⟩ := hw
        exact J91 n91 ro rg ho hc ht r11 (0 : Int32) _ _ _ hP hD hS (lv_sub hl [2, 1, 0] rfl) hw
      · have hw := hw.2 cd10
        refine lv_lload_n hx hb dX5_digest_51 rfl (lv_at hl 1 rfl) ?_
        refine lv_aload_n hx hb dX5_digest_52 rfl (lv_at hl 0 rfl) ?_
        refine va_get (D := gD G) (ci := 5) (v := .ref qk) (C := RX5) (T := TX5) (N := 7) hx hb hts k_X5_digest_inX5 hown hK hP 0 rfl rfl 3 (by decide) (hts _ k_X5_digest_f27) (fun _ h9 => h9) rfl dX5_digest_53 ?_
        refine lv_iload_n hx hb dX5_digest_56 rfl (lv_at hl 2 rfl) ?_
        obtain ⟨h15, hw⟩ := hw
        refine va_zald hx hb hK hP 31 1 rfl rfl h15 dX5_digest_57 ?_
        refine lv_if_eq (tgt := 65) hx hb dX5_digest_58 (by decide) (fun cd16 => ?_) (fun cd16 => ?_)
        · have hw := hw.1 cd16
          refine lv_lconst (v := 0) hx hb dX5_digest_65 (by decide) ?_
          exact J66 (fun (z0 : Nat → Int32) (z1 : Nat → Int32) (z2 : Nat → Int32) (z3 : Nat → Int32) (z4 : Nat → Int32) (z5 : Int64) (z6 : Int32) => wl_n_X5_digest_46 db de df dc dp dk sn tk tc tl Q n z0 z1 z2 z3 z4 z5 z6) ih ro rg ho hc ht x1 x3 x1 (0 : Int64) _ _ _ hP hD hS hl hw
        · have hw := hw.2 cd16
          refine lv_lconst (v := 1) hx hb dX5_digest_61 (by decide) ?_
          refine lv_goto (tgt := 66) hx hb dX5_digest_62 (by decide) ?_
          exact J66 (fun (z0 : Nat → Int32) (z1 : Nat → Int32) (z2 : Nat → Int32) (z3 : Nat → Int32) (z4 : Nat → Int32) (z5 : Int64) (z6 : Int32) => wl_n_X5_digest_46 db de df dc dp dk sn tk tc tl Q n z0 z1 z2 z3 z4 z5 z6) ih ro rg ho hc ht x1 x3 x1 (1 : Int64) _ _ _ hP hD hS hl hw
  have J14 : ∀ (n : Nat) (ro : Nat → Int32) (rg : Nat → Int32) (ho : Nat → Int32) (hc : Nat → Int32) (ht : Nat → Int32) (x1 : Int64) (x3 : Int32) (H : Heap) (locs : List Loc) (ls : Array Slot), va_P (gD G) vwCl (w0_X5_digest G qm qd qs qn qk qt qr qx qdb qde qdf qsa qs0 qs0b qs0e qs0f qs1 qs1b qs1e qs1f qs2 qs2b qs2e qs2f qs3 qs3b qs3e qs3f qs4 qs4b qs4e qs4f qs5 qs5b qs5e qs5f qtc qtn qro qrg qxo qxc qxt db de df dc dp dk so sn sb se sf sc sp sk tk tc tl tn tf tv ro rg ho hc ht) H → va_D A (w0_X5_digest G qm qd qs qn qk qt qr qx qdb qde qdf qsa qs0 qs0b qs0e qs0f qs1 qs1b qs1e qs1f qs2 qs2b qs2e qs2f qs3 qs3b qs3e qs3f qs4 qs4b qs4e qs4f qs5 qs5b qs5e qs5f qtc qtn qro qrg qxo qxc qxt db de df dc dp dk so sn sb se sf sc sp sk tk tc tl tn tf tv ro rg ho hc ht) → va_S A s.heap H locs → lv_has ls 4 [(0, .ref qm), (1, .long x1), (3, .int x3)] → wl_n_X5_digest_14 db de df dc dp dk sn tk tc tl Q n ro rg ho hc ht x1 x3 → W p l e ({ frames := 22, cells := 0, slots := 0, locals := 568 } : Room) s m ([.ref qm] : List Value).toArray below meth c H locs 0 0 (MQ below (va_Ql (fun (r : Int64) (u : (Nat → Int32) × (Nat → Int32) × (Nat → Int32) × (Nat → Int32) × (Nat → Int32)) => Q r u.1 u.2.1 u.2.2.1 u.2.2.2.1 u.2.2.2.2) (mBk G A (fun (u : (Nat → Int32) × (Nat → Int32) × (Nat → Int32) × (Nat → Int32) × (Nat → Int32)) => (w0_X5_digest G qm qd qs qn qk qt qr qx qdb qde qdf qsa qs0 qs0b qs0e qs0f qs1 qs1b qs1e qs1f qs2 qs2b qs2e qs2f qs3 qs3b qs3e qs3f qs4 qs4b qs4e qs4f qs5 qs5b qs5e qs5f qtc qtn qro qrg qxo qxc qxt db de df dc dp dk so sn sb se sf sc sp sk tk tc tl tn tf tv u.1 u.2.1 u.2.2.1 u.2.2.2.1 u.2.2.2.2))) A) ([.ref qm] : List Value).toArray s 0 0 A) (F0 m 14 ls []) := by
    intro n
    induction n with
    | zero => intro ro rg ho hc ht x1 x3 H locs ls hP hD hS hl hw; exact False.elim hw
    | succ n ih =>
      intro ro rg ho hc ht x1 x3 H locs ls hP hD hS hl hw
      rw [wl_n_X5_digest_14] at hw
      refine lv_iload_n hx hb dX5_digest_14 rfl (lv_at hl 2 rfl) ?_
      refine lv_aload_n hx hb dX5_digest_15 rfl (lv_at hl 0 rfl) ?_
      refine va_get (D := gD G) (ci := 5) (v := .ref qd) (C := RX5) (T := TX5) (N := 7) hx hb hts k_X5_digest_inX5 hown hK hP 0 rfl rfl 0 (by decide) (hts _ k_X5_digest_f10) (fun _ h9 => h9) rfl dX5_digest_16 ?_
      refine va_get (D := gD G) (ci := 1) (v := .int dc) (C := RX1) (T := TX1) (N := 6) hx hb hts k_X5_digest_inX1 hown hK hP 1 rfl rfl 3 (by decide) (hts _ k_X5_digest_f71) (fun _ h9 => h9) rfl dX5_digest_19 ?_
      refine lv_icmp_ge (tgt := 38) hx hb dX5_digest_22 (by decide) (fun cd3 => ?_) (fun cd3 => ?_)
      · have hw := hw.1 cd3
        refine lv_aload_n hx hb dX5_digest_38 rfl (lv_at hl 0 rfl) ?_
        refine lv_lload_n hx hb dX5_digest_39 rfl (lv_at hl 1 rfl) ?_
        refine kc_l (kr_V [] ⟨hx, hb, hml, hown, hts⟩ (cn_X5_mixWhole l G qm qd qs qn qk qt qr qx qdb qde qdf qsa qs0 qs0b qs0e qs0f qs1 qs1b qs1e qs1f qs2 qs2b qs2e qs2f qs3 qs3b qs3e qs3f qs4 qs4b qs4e qs4f qs5 qs5b qs5e qs5f qro qrg qxo qxc qxt db de df dc dp dk so sn sb se sf sc sp sk ro rg ho hc ht x1 hw H.size) (cwV 1 hts gX5_digest_X5_mixWhole rfl rfl rfl (by decide +kernel) ⟨Nat.le_of_ble_eq_true rfl, Nat.le_of_ble_eq_true rfl⟩) hK hG hP hD hS hA [0, 1, 2, 3, 4, 5, 6, 7, 8, 9, 10, 11, 12, 13, 14, 15, 16, 17, 18, 19, 20, 21, 22, 23, 24, 25, 26, 27, 28, 29, 30, 35, 36, 37, 38, 39, 40, 41] rfl rfl 5 0 rfl rfl rfl hl.1 rfl (Nat.le_of_ble_eq_true rfl) dX5_digest_40 ⟨Nat.le_of_ble_eq_true rfl, Nat.le_of_ble_eq_true rfl⟩) hP hD hS hA [0, 1, 2, 3, 4, 5, 6, 7, 8, 9, 10, 11, 12, 13, 14, 15, 16, 17, 18, 19, 20, 21, 22, 23, 24, 25, 26, 27, 28, 29, 30, 35, 36, 37, 38, 39, 40, 41] [31, 32, 33, 34] rfl rfl rfl (by decide) (fun r4 u H locs hw hP hD hS => ?_)
        obtain ⟨ro_5, rg_6, ho_7, hc_8, ht_9⟩ := u
        try dsimp only at hw
        have hP := hP.sub (ws' := (w0_X5_digest G qm qd qs qn qk qt qr qx qdb qde qdf qsa qs0 qs0b qs0e qs0f qs1 qs1b qs1e qs1f qs2 qs2b qs2e qs2f qs3 qs3b qs3e qs3f qs4 qs4b qs4e qs4f qs5 qs5b qs5e qs5f qtc qtn qro qrg qxo qxc qxt db de df dc dp dk so sn sb se sf sc sp sk tk tc tl tn tf tv ro_5 rg_6 ho_7 hc_8 ht_9)) [4, 5, 6, 7, 8, 9, 10, 11, 12, 13, 14, 15, 16, 17, 18, 19, 20, 21, 22, 23, 24, 25, 26, 27, 28, 29, 30, 31, 32, 33, 34, 0, 1, 2, 3, 35, 36, 37, 38, 39, 40, 41] rfl
        have hD := hD.sub (ws' := (w0_X5_digest G qm qd qs qn qk qt qr qx qdb qde qdf qsa qs0 qs0b qs0e qs0f qs1 qs1b qs1e qs1f qs2 qs2b qs2e qs2f qs3 qs3b qs3e qs3f qs4 qs4b qs4e qs4f qs5 qs5b qs5e qs5f qtc qtn qro qrg qxo qxc qxt db de df dc dp dk so sn sb se sf sc sp sk tk tc tl tn tf tv ro_5 rg_6 ho_7 hc_8 ht_9)) [4, 5, 6, 7, 8, 9, 10, 11, 12, 13, 14, 15, 16, 17, 18, 19, 20, 21, 22, 23, 24, 25, 26, 27, 28, 29, 30, 31, 32, 33, 34, 0, 1, 2, 3, 35, 36, 37, 38, 39, 40, 41] rfl rfl
        refine lv_lstore_n (lv' := [(1, .long r4), (0, .ref qm), (3, .int x3)]) hx hb dX5_digest_43 rfl hl (by decide) rfl (fun ls hl => ?_)
        refine lv_iconst (v := 0) hx hb dX5_digest_44 (by decide) ?_
        refine lv_istore_n (lv' := [(3, .int (0 : Int32)), (1, .long r4), (0, .ref qm)]) hx hb dX5_digest_45 rfl hl (by decide) rfl (fun ls hl => ?_)
        obtain ⟨n46, hw⟩ := hw
        exact J46 n46 ro_5 rg_6 ho_7 hc_8 ht_9 r4 (0 : Int32) _ _ _ hP hD hS (lv_sub hl [2, 1, 0] rfl) hw
      · have hw := hw.2 cd3
        refine lv_aload_n hx hb dX5_digest_25 rfl (lv_at hl 0 rfl) ?_
        refine lv_lload_n hx hb dX5_digest_26 rfl (lv_at hl 1 rfl) ?_
        refine lv_iload_n hx hb dX5_digest_27 rfl (lv_at hl 2 rfl) ?_
        refine kc_l (kr_V [] ⟨hx, hb, hml, hown, hts⟩ (cn_X5_mixRehearsal l G qm qd qs qn qk qt qr qx qdb qde qdf qro qrg qxo qxc qxt db de df dc dp dk ro rg ho hc ht x1 x3 hw H.size) (cwV 2 hts gX5_digest_X5_mixRehearsal rfl rfl rfl (by decide +kernel) ⟨Nat.le_of_ble_eq_true rfl, Nat.le_of_ble_eq_true rfl⟩) hK hG hP hD hS hA [0, 1, 2, 3, 4, 35, 36, 37, 38, 39, 40, 41] rfl rfl 5 0 rfl rfl rfl hl.1 rfl (Nat.le_of_ble_eq_true rfl) dX5_digest_28 ⟨Nat.le_of_ble_eq_true rfl, Nat.le_of_ble_eq_true rfl⟩) hP hD hS hA [0, 1, 2, 3, 4, 35, 36, 37, 38, 39, 40, 41] [5, 6, 7, 8, 9, 10, 11, 12, 13, 14, 15, 16, 17, 18, 19, 20, 21, 22, 23, 24, 25, 26, 27, 28, 29, 30, 31, 32, 33, 34] rfl rfl rfl (by decide) (fun r18 u H locs hw hP hD hS => ?_)
        obtain ⟨ro_19, rg_20, ho_21, ht_22⟩ := u
        try dsimp only at hw
        have hP := hP.sub (ws' := (w0_X5_digest G qm qd qs qn qk qt qr qx qdb qde qdf qsa qs0 qs0b qs0e qs0f qs1 qs1b qs1e qs1f qs2 qs2b qs2e qs2f qs3 qs3b qs3e qs3f qs4 qs4b qs4e qs4f qs5 qs5b qs5e qs5f qtc qtn qro qrg qxo qxc qxt db de df dc dp dk so sn sb se sf sc sp sk tk tc tl tn tf tv ro_19 rg_20 ho_21 hc ht_22)) [30, 31, 32, 33, 34, 0, 1, 2, 3, 4, 5, 6, 7, 8, 9, 10, 11, 12, 13, 14, 15, 16, 17, 18, 19, 20, 21, 22, 23, 24, 25, 26, 27, 28, 29, 35, 36, 37, 38, 39, 40, 41] rfl
        have hD := hD.sub (ws' := (w0_X5_digest G qm qd qs qn qk qt qr qx qdb qde qdf qsa qs0 qs0b qs0e qs0f qs1 qs1b qs1e qs1f qs2 qs2b qs2e qs2f qs3 qs3b qs3e qs3f qs4 qs4b qs4e qs4f qs5 qs5b qs5e qs5f qtc qtn qro qrg qxo qxc qxt db de df dc dp dk so sn sb se sf sc sp sk tk tc tl tn tf tv ro_19 rg_20 ho_21 hc ht_22)) [30, 31, 32, 33, 34, 0, 1, 2, 3, 4, 5, 6, 7, 8, 9, 10, 11, 12, 13, 14, 15, 16, 17, 18, 19, 20, 21, 22, 23, 24, 25, 26, 27, 28, 29, 35, 36, 37, 38, 39, 40, 41] rfl rfl
        refine lv_lstore_n (lv' := [(1, .long r18), (0, .ref qm), (3, .int x3)]) hx hb dX5_digest_31 rfl hl (by decide) rfl (fun ls hl => ?_)
        refine lv_iinc (v := (x3 + 1)) (lv' := [(3, .int (x3 + 1)), (1, .long r18), (0, .ref qm)]) hx hb dX5_digest_32 hl (k := 2) rfl rfl (by decide) rfl (fun ls hl => ?_)
        refine lv_goto (tgt := 14) hx hb dX5_digest_35 (by decide) ?_
        exact ih ro_19 rg_20 ho_21 hc ht_22 r18 (x3 + 1) _ _ _ hP hD hS (lv_sub hl [2, 1, 0] rfl) hw
  unfold wn_X5_digest at hw
  refine lv_ldc2 (v := 4327) hx hb hown (hts _ k_X5_digest_c231) dX5_digest_0 ?_
  refine lv_aload_n hx hb dX5_digest_3 rfl (lv_at hl 0 rfl) ?_
  refine kcR_i (kr_V [.long (4327 : Int64)] ⟨hx, hb, hml, hown, hts⟩ (cn_X5_rehearsals l G qm qd qs qn qk qt qr qx qdb qde qdf db de df dc dp dk hw H.size) (cwV 0 hts gX5_digest_X5_rehearsals rfl rfl rfl (by decide +kernel) ⟨Nat.le_of_ble_eq_true rfl, Nat.le_of_ble_eq_true rfl⟩) hK hG hP hD hS hA [0, 1, 2, 3, 4] rfl rfl 5 0 rfl rfl rfl hl.1 rfl (Nat.le_of_ble_eq_true rfl) dX5_digest_4 ⟨Nat.le_of_ble_eq_true rfl, Nat.le_of_ble_eq_true rfl⟩) hP hD hS hA [0, 1, 2, 3, 4] rfl (fun r1 u H locs hw hP hS => ?_)
  try dsimp only at hw
  refine lv_i2l hx hb dX5_digest_7 rfl ?_
  refine kcR_l (kr_S [] ⟨hx, hb, hml, hown, hts⟩ (cn_X5_mix l G (4327 : Int64) r1.toInt64 hw H.size) (va_cwS 2 hts gX5_digest_X5_mix rfl rfl rfl (by decide +kernel) ⟨Nat.le_of_ble_eq_true rfl, Nat.le_of_ble_eq_true rfl⟩) hK hG hP hD hS hA [] rfl rfl rfl hl.1 rfl (Nat.le_of_ble_eq_true rfl) dX5_digest_8 ⟨Nat.le_of_ble_eq_true rfl, Nat.le_of_ble_eq_true rfl⟩) hP hD hS hA [] rfl (fun r2 u H locs hw hP hS => ?_)
  try dsimp only at hw
  refine lv_lstore_n (lv' := [(1, .long r2), (0, .ref qm)]) hx hb dX5_digest_11 rfl hl (by decide) rfl (fun ls hl => ?_)
  refine lv_iconst (v := 0) hx hb dX5_digest_12 (by decide) ?_
  refine lv_istore_n (lv' := [(3, .int (0 : Int32)), (1, .long r2), (0, .ref qm)]) hx hb dX5_digest_13 rfl hl (by decide) rfl (fun ls hl => ?_)
  obtain ⟨n14, hw⟩ := hw
  exact J14 n14 ro rg ho hc ht r2 (0 : Int32) _ _ _ hP hD hS (lv_sub hl [2, 1, 0] rfl) hw
