abbrev w0_X5_bestChoice (G : mG) (qm : Nat) (qd : Nat) (qs : Nat) (qn : Nat) (qk : Nat) (qt : Nat) (qr : Nat) (qx : Nat) (qdb : Nat) (qde : Nat) (qdf : Nat) (qxo : Nat) (qxc : Nat) (qxt : Nat) (db : Nat → Int32) (de : Nat → Int32) (df : Nat → Int32) (dc : Int32) (dp : Int32) (dk : Int32) (ho : Nat → Int32) (hc : Nat → Int32) (ht : Nat → Int32) : va_W := [(qm, .inr (5, [.ref qd, .ref qs, .ref qn, .ref qk, .ref qt, .ref qr, .ref qx])), (qd, .inr (1, [.ref qdb, .ref qde, .ref qdf, .int dc, .int dp, .int dk])), (qdb, .inl (gI G, (14, .inl db))), (qde, .inl (gI G, (14, .inl de))), (qdf, .inl (gI G, (14, .inl df))), (qx, .inr (0, [.ref qxo, .ref qxc, .ref qxt])), (qxo, .inl (gI G, (14, .inl ho))), (qxc, .inl (gI G, (14, .inl hc))), (qxt, .inl (gI G, (15, .inl ht)))]
set_option maxRecDepth 100000 in
theorem k_X5_bestChoice_inX5 : ∀ w ∈ u_ws RX5 TX5 7, w ∈ wsX5_bestChoice := by decide +kernel
set_option maxRecDepth 100000 in
theorem k_X5_bestChoice_f48 : Cond.fieldLink RX5 48 "RehearsalRoom" "choices" "LRehearsalRoom$Choices;" ∈ wsX5_bestChoice := by decide +kernel
set_option maxRecDepth 100000 in
theorem k_X5_bestChoice_f10 : Cond.fieldLink RX5 10 "RehearsalRoom" "day" "LRehearsalRoom$Day;" ∈ wsX5_bestChoice := by decide +kernel
set_option maxHeartbeats 8000000 in
set_option maxRecDepth 100000 in
theorem cn_X5_bestChoice (l : Launch) (G : mG) (qm : Nat) (qd : Nat) (qs : Nat) (qn : Nat) (qk : Nat) (qt : Nat) (qr : Nat) (qx : Nat) (qdb : Nat) (qde : Nat) (qdf : Nat) (qxo : Nat) (qxc : Nat) (qxt : Nat) (db : Nat → Int32) (de : Nat → Int32) (df : Nat → Int32) (dc : Int32) (dp : Int32) (dk : Int32) (ho : Nat → Int32) (hc : Nat → Int32) (ht : Nat → Int32) {Q : Int32 → (Nat → Int32) → (Nat → Int32) → Prop} (hw : wn_X5_bestChoice db de df dc dp ho ht Q) (sz : Nat) :
    Met l yX5_bestChoice wsX5_bestChoice ({ frames := 4, cells := 0, slots := 0, locals := 91 } : Room) (va_Pc [.ref qm] (mPre G (w0_X5_bestChoice G qm qd qs qn qk qt qr qx qdb qde qdf qxo qxc qxt db de df dc dp dk ho hc ht) sz)) (va_Qi (fun (r : Int32) (u : (Nat → Int32) × (Nat → Int32)) => Q r u.1 u.2) (mBk G (va_A (w0_X5_bestChoice G qm qd qs qn qk qt qr qx qdb qde qdf qxo qxc qxt db de df dc dp dk ho hc ht) sz) (fun (u : (Nat → Int32) × (Nat → Int32)) => (w0_X5_bestChoice G qm qd qs qn qk qt qr qx qdb qde qdf qxo qxc qxt db de df dc dp dk u.1 hc u.2))) (va_A (w0_X5_bestChoice G qm qd qs qn qk qt qr qx qdb qde qdf qxo qxc qxt db de df dc dp dk ho hc ht) sz)) 0 0 (va_A (w0_X5_bestChoice G qm qd qs qn qk qt qr qx qdb qde qdf qxo qxc qxt db de df dc dp dk ho hc ht) sz) := by
  refine ms_i (cc := cX5_bestChoice) (maxL := 1) (ret := some .int) (post := (fun (r : Int32) (u : (Nat → Int32) × (Nat → Int32)) => Q r u.1 u.2)) (w1 := (fun (u : (Nat → Int32) × (Nat → Int32)) => (w0_X5_bestChoice G qm qd qs qn qk qt qr qx qdb qde qdf qxo qxc qxt db de df dc dp dk u.1 hc u.2))) (by decide) rfl (Nat.le_of_ble_eq_true rfl) ?_ sz
  intro p e s m below meth c A ls H locs hx hb hr hml hown hts hlocks hK hG hP hD hS hA hl
  have hown : s.vm.findClass RX5 = some m.cls := hown
  have hl : lv_has ls 1 [(0, .ref qm)] := hl
  unfold wn_X5_bestChoice at hw
  refine lv_aload_n hx hb dX5_bestChoice_0 rfl (lv_at hl 0 rfl) ?_
  refine va_get (D := gD G) (ci := 5) (v := .ref qx) (C := RX5) (T := TX5) (N := 7) hx hb hts k_X5_bestChoice_inX5 hown hK hP 0 rfl rfl 6 (by decide) (hts _ k_X5_bestChoice_f48) (fun _ h9 => h9) rfl dX5_bestChoice_1 ?_
  refine lv_aload_n hx hb dX5_bestChoice_4 rfl (lv_at hl 0 rfl) ?_
  refine va_get (D := gD G) (ci := 5) (v := .ref qd) (C := RX5) (T := TX5) (N := 7) hx hb hts k_X5_bestChoice_inX5 hown hK hP 0 rfl rfl 0 (by decide) (hts _ k_X5_bestChoice_f10) (fun _ h9 => h9) rfl dX5_bestChoice_5 ?_
  refine kc_i (kr_V [] ⟨hx, hb, hml, hown, hts⟩ (cn_X0_bestSet l G qx qxo qxc qxt qd qdb qde qdf ho hc ht db de df dc dp dk hw H.size) (cwV 1 hts gX5_bestChoice_X0_bestSet rfl rfl rfl (by decide +kernel) ⟨Nat.le_of_ble_eq_true rfl, Nat.le_of_ble_eq_true rfl⟩) hK hG hP hD hS hA [5, 6, 7, 8, 1, 2, 3, 4] rfl rfl 0 5 rfl rfl rfl hl.1 rfl (Nat.le_of_ble_eq_true rfl) dX5_bestChoice_8 ⟨Nat.le_of_ble_eq_true rfl, Nat.le_of_ble_eq_true rfl⟩) hP hD hS hA [5, 6, 7, 8, 1, 2, 3, 4] [0] rfl rfl rfl (by decide) (fun r1 u H locs hw hP hD hS => ?_)
  obtain ⟨ho_2, ht_3⟩ := u
  try dsimp only at hw
  have hP := hP.sub (ws' := (w0_X5_bestChoice G qm qd qs qn qk qt qr qx qdb qde qdf qxo qxc qxt db de df dc dp dk ho_2 hc ht_3)) [0, 5, 6, 7, 8, 1, 2, 3, 4] rfl
  have hD := hD.sub (ws' := (w0_X5_bestChoice G qm qd qs qn qk qt qr qx qdb qde qdf qxo qxc qxt db de df dc dp dk ho_2 hc ht_3)) [0, 5, 6, 7, 8, 1, 2, 3, 4] rfl rfl
  exact fin_i (ho_2, ht_3) hx hb hr hlocks hK hS hP hD hw dX5_bestChoice_11

abbrev w0_X5_mostRehearsals (G : mG) (qm : Nat) (qd : Nat) (qs : Nat) (qn : Nat) (qk : Nat) (qt : Nat) (qr : Nat) (qx : Nat) (qdb : Nat) (qde : Nat) (qdf : Nat) (qxo : Nat) (qxc : Nat) (qxt : Nat) (db : Nat → Int32) (de : Nat → Int32) (df : Nat → Int32) (dc : Int32) (dp : Int32) (dk : Int32) (ho : Nat → Int32) (hc : Nat → Int32) (ht : Nat → Int32) : va_W := [(qm, .inr (5, [.ref qd, .ref qs, .ref qn, .ref qk, .ref qt, .ref qr, .ref qx])), (qd, .inr (1, [.ref qdb, .ref qde, .ref qdf, .int dc, .int dp, .int dk])), (qdb, .inl (gI G, (14, .inl db))), (qde, .inl (gI G, (14, .inl de))), (qdf, .inl (gI G, (14, .inl df))), (qx, .inr (0, [.ref qxo, .ref qxc, .ref qxt])), (qxo, .inl (gI G, (14, .inl ho))), (qxc, .inl (gI G, (14, .inl hc))), (qxt, .inl (gI G, (15, .inl ht)))]
set_option maxRecDepth 100000 in
theorem k_X5_mostRehearsals_inX5 : ∀ w ∈ u_ws RX5 TX5 7, w ∈ wsX5_mostRehearsals := by decide +kernel
set_option maxRecDepth 100000 in
theorem k_X5_mostRehearsals_f48 : Cond.fieldLink RX5 48 "RehearsalRoom" "choices" "LRehearsalRoom$Choices;" ∈ wsX5_mostRehearsals := by decide +kernel
set_option maxRecDepth 100000 in
theorem k_X5_mostRehearsals_f10 : Cond.fieldLink RX5 10 "RehearsalRoom" "day" "LRehearsalRoom$Day;" ∈ wsX5_mostRehearsals := by decide +kernel
set_option maxHeartbeats 8000000 in
set_option maxRecDepth 100000 in
theorem cn_X5_mostRehearsals (l : Launch) (G : mG) (qm : Nat) (qd : Nat) (qs : Nat) (qn : Nat) (qk : Nat) (qt : Nat) (qr : Nat) (qx : Nat) (qdb : Nat) (qde : Nat) (qdf : Nat) (qxo : Nat) (qxc : Nat) (qxt : Nat) (db : Nat → Int32) (de : Nat → Int32) (df : Nat → Int32) (dc : Int32) (dp : Int32) (dk : Int32) (ho : Nat → Int32) (hc : Nat → Int32) (ht : Nat → Int32) {Q : Int32 → (Nat → Int32) → Prop} (hw : wn_X5_mostRehearsals db de dc dp ho Q) (sz : Nat) :
    Met l yX5_mostRehearsals wsX5_mostRehearsals ({ frames := 2, cells := 0, slots := 0, locals := 49 } : Room) (va_Pc [.ref qm] (mPre G (w0_X5_mostRehearsals G qm qd qs qn qk qt qr qx qdb qde qdf qxo qxc qxt db de df dc dp dk ho hc ht) sz)) (va_Qi (fun (r : Int32) (u : (Nat → Int32)) => Q r u) (mBk G (va_A (w0_X5_mostRehearsals G qm qd qs qn qk qt qr qx qdb qde qdf qxo qxc qxt db de df dc dp dk ho hc ht) sz) (fun (u : (Nat → Int32)) => (w0_X5_mostRehearsals G qm qd qs qn qk qt qr qx qdb qde qdf qxo qxc qxt db de df dc dp dk u hc ht))) (va_A (w0_X5_mostRehearsals G qm qd qs qn qk qt qr qx qdb qde qdf qxo qxc qxt db de df dc dp dk ho hc ht) sz)) 0 0 (va_A (w0_X5_mostRehearsals G qm qd qs qn qk qt qr qx qdb qde qdf qxo qxc qxt db de df dc dp dk ho hc ht) sz) := by
  refine ms_i (cc := cX5_mostRehearsals) (maxL := 1) (ret := some .int) (post := (fun (r : Int32) (u : (Nat → Int32)) => Q r u)) (w1 := (fun (u : (Nat → Int32)) => (w0_X5_mostRehearsals G qm qd qs qn qk qt qr qx qdb qde qdf qxo qxc qxt db de df dc dp dk u hc ht))) (by decide) rfl (Nat.le_of_ble_eq_true rfl) ?_ sz
  intro p e s m below meth c A ls H locs hx hb hr hml hown hts hlocks hK hG hP hD hS hA hl
  have hown : s.vm.findClass RX5 = some m.cls := hown
  have hl : lv_has ls 1 [(0, .ref qm)] := hl
  unfold wn_X5_mostRehearsals at hw
  refine lv_aload_n hx hb dX5_mostRehearsals_0 rfl (lv_at hl 0 rfl) ?_
  refine va_get (D := gD G) (ci := 5) (v := .ref qx) (C := RX5) (T := TX5) (N := 7) hx hb hts k_X5_mostRehearsals_inX5 hown hK hP 0 rfl rfl 6 (by decide) (hts _ k_X5_mostRehearsals_f48) (fun _ h9 => h9) rfl dX5_mostRehearsals_1 ?_
  refine lv_aload_n hx hb dX5_mostRehearsals_4 rfl (lv_at hl 0 rfl) ?_
  refine va_get (D := gD G) (ci := 5) (v := .ref qd) (C := RX5) (T := TX5) (N := 7) hx hb hts k_X5_mostRehearsals_inX5 hown hK hP 0 rfl rfl 0 (by decide) (hts _ k_X5_mostRehearsals_f10) (fun _ h9 => h9) rfl dX5_mostRehearsals_5 ?_
  refine kc_i (kr_V [] ⟨hx, hb, hml, hown, hts⟩ (cn_X0_mostInOne l G qx qxo qxc qxt qd qdb qde qdf ho hc ht db de df dc dp dk hw H.size) (cwV 1 hts gX5_mostRehearsals_X0_mostInOne rfl rfl rfl (by decide +kernel) ⟨Nat.le_of_ble_eq_true rfl, Nat.le_of_ble_eq_true rfl⟩) hK hG hP hD hS hA [5, 6, 7, 8, 1, 2, 3, 4] rfl rfl 0 5 rfl rfl rfl hl.1 rfl (Nat.le_of_ble_eq_true rfl) dX5_mostRehearsals_8 ⟨Nat.le_of_ble_eq_true rfl, Nat.le_of_ble_eq_true rfl⟩) hP hD hS hA [5, 6, 7, 8, 1, 2, 3, 4] [0] rfl rfl rfl (by decide) (fun r1 u H locs hw hP hD hS => ?_)
  obtain ⟨ho_2, rfl⟩ : ∃ z, z = u := ⟨_, rfl⟩
  try dsimp only at hw
  have hP := hP.sub (ws' := (w0_X5_mostRehearsals G qm qd qs qn qk qt qr qx qdb qde qdf qxo qxc qxt db de df dc dp dk ho_2 hc ht)) [0, 5, 6, 7, 8, 1, 2, 3, 4] rfl
  have hD := hD.sub (ws' := (w0_X5_mostRehearsals G qm qd qs qn qk qt qr qx qdb qde qdf qxo qxc qxt db de df dc dp dk ho_2 hc ht)) [0, 5, 6, 7, 8, 1, 2, 3, 4] rfl rfl
  exact fin_i (ho_2) hx hb hr hlocks hK hS hP hD hw dX5_mostRehearsals_11

abbrev w0_X5_bestWith (G : mG) (qm : Nat) (qd : Nat) (qs : Nat) (qn : Nat) (qk : Nat) (qt : Nat) (qr : Nat) (qx : Nat) (qdb : Nat) (qde : Nat) (qdf : Nat) (qxo : Nat) (qxc : Nat) (qxt : Nat) (db : Nat → Int32) (de : Nat → Int32) (df : Nat → Int32) (dc : Int32) (dp : Int32) (dk : Int32) (ho : Nat → Int32) (hc : Nat → Int32) (ht : Nat → Int32) : va_W := [(qm, .inr (5, [.ref qd, .ref qs, .ref qn, .ref qk, .ref qt, .ref qr, .ref qx])), (qd, .inr (1, [.ref qdb, .ref qde, .ref qdf, .int dc, .int dp, .int dk])), (qdb, .inl (gI G, (14, .inl db))), (qde, .inl (gI G, (14, .inl de))), (qdf, .inl (gI G, (14, .inl df))), (qx, .inr (0, [.ref qxo, .ref qxc, .ref qxt])), (qxo, .inl (gI G, (14, .inl ho))), (qxc, .inl (gI G, (14, .inl hc))), (qxt, .inl (gI G, (15, .inl ht)))]
set_option maxRecDepth 100000 in
theorem k_X5_bestWith_inX5 : ∀ w ∈ u_ws RX5 TX5 7, w ∈ wsX5_bestWith := by decide +kernel
set_option maxRecDepth 100000 in
theorem k_X5_bestWith_f10 : Cond.fieldLink RX5 10 "RehearsalRoom" "day" "LRehearsalRoom$Day;" ∈ wsX5_bestWith := by decide +kernel
set_option maxRecDepth 100000 in
theorem k_X5_bestWith_inX1 : ∀ w ∈ u_ws RX1 TX1 6, w ∈ wsX5_bestWith := by decide +kernel
set_option maxRecDepth 100000 in
theorem k_X5_bestWith_f78 : Cond.fieldLink RX5 78 "RehearsalRoom$Day" "fames" "[I" ∈ wsX5_bestWith := by decide +kernel
set_option maxRecDepth 100000 in
theorem k_X5_bestWith_f48 : Cond.fieldLink RX5 48 "RehearsalRoom" "choices" "LRehearsalRoom$Choices;" ∈ wsX5_bestWith := by decide +kernel
set_option maxHeartbeats 8000000 in
set_option maxRecDepth 100000 in
theorem cx_X5_bestWith (l : Launch) (hst : l.stackTraces = false) (G : mG) (qm : Nat) (qd : Nat) (qs : Nat) (qn : Nat) (qk : Nat) (qt : Nat) (qr : Nat) (qx : Nat) (qdb : Nat) (qde : Nat) (qdf : Nat) (qxo : Nat) (qxc : Nat) (qxt : Nat) (db : Nat → Int32) (de : Nat → Int32) (df : Nat → Int32) (dc : Int32) (dp : Int32) (dk : Int32) (ho : Nat → Int32) (hc : Nat → Int32) (ht : Nat → Int32) (a1 : Int32) {Q : Int32 → (Nat → Int32) → (Nat → Int32) → Prop} {X : String → (Nat → Int32) → (Nat → Int32) → Prop} (hw : wx_X5_bestWith db de df dc dp ho ht a1 Q X) (sz : Nat) :
    vx_Met l yX5_bestWith wsX5_bestWith ({ frames := 7, cells := 1, slots := 6, locals := 111 } : Room) (va_Pc [.ref qm, .int a1] (mPre G (w0_X5_bestWith G qm qd qs qn qk qt qr qx qdb qde qdf qxo qxc qxt db de df dc dp dk ho hc ht) sz)) (va_Qi (fun (r : Int32) (u : (Nat → Int32) × (Nat → Int32)) => Q r u.1 u.2) (mBk G (va_A (w0_X5_bestWith G qm qd qs qn qk qt qr qx qdb qde qdf qxo qxc qxt db de df dc dp dk ho hc ht) sz) (fun (u : (Nat → Int32) × (Nat → Int32)) => (w0_X5_bestWith G qm qd qs qn qk qt qr qx qdb qde qdf qxo qxc qxt db de df dc dp dk u.1 hc u.2))) (va_A (w0_X5_bestWith G qm qd qs qn qk qt qr qx qdb qde qdf qxo qxc qxt db de df dc dp dk ho hc ht) sz)) (vx_X (fun _ => True) (fun E u t => (fun (E : String) (u : (Nat → Int32) × (Nat → Int32)) => X E u.1 u.2) E u ∧ mBk G (va_A (w0_X5_bestWith G qm qd qs qn qk qt qr qx qdb qde qdf qxo qxc qxt db de df dc dp dk ho hc ht) sz) (fun (u : (Nat → Int32) × (Nat → Int32)) => (w0_X5_bestWith G qm qd qs qn qk qt qr qx qdb qde qdf qxo qxc qxt db de df dc dp dk u.1 hc u.2)) u t) (va_A (w0_X5_bestWith G qm qd qs qn qk qt qr qx qdb qde qdf qxo qxc qxt db de df dc dp dk ho hc ht) sz)) 1 6 (va_A (w0_X5_bestWith G qm qd qs qn qk qt qr qx qdb qde qdf qxo qxc qxt db de df dc dp dk ho hc ht) sz) := by
  refine mx_i (cc := cX5_bestWith) (maxL := 3) (ret := some .int) (post := (fun (r : Int32) (u : (Nat → Int32) × (Nat → Int32)) => Q r u.1 u.2)) (w1 := (fun (u : (Nat → Int32) × (Nat → Int32)) => (w0_X5_bestWith G qm qd qs qn qk qt qr qx qdb qde qdf qxo qxc qxt db de df dc dp dk u.1 hc u.2))) (px := (fun (E : String) (u : (Nat → Int32) × (Nat → Int32)) => X E u.1 u.2)) (by decide) rfl (Nat.le_of_ble_eq_true rfl) ?_ sz
  intro p e s m below meth c A ls H locs hx hb hr hml hown hts hlocks hnt hK hG hP hD hS hA hl
  have hown : s.vm.findClass RX5 = some m.cls := hown
  have hl : lv_has ls 3 [(0, .ref qm), (1, .int a1)] := hl
  unfold wx_X5_bestWith at hw
  refine lv_aload_n hx hb dX5_bestWith_0 rfl (lv_at hl 0 rfl) ?_
  refine lv_iload_n hx hb dX5_bestWith_1 rfl (lv_at hl 1 rfl) ?_
  refine kxR_v (xr_V [] ⟨hx, hb, hml, hown, hts⟩ (cx_X5_requireRehearsal l hst G qm qd qs qn qk qt qr qx qdb qde qdf db de df dc dp dk a1 hw H.size) (cwV 1 hts gX5_bestWith_X5_requireRehearsal rfl rfl rfl (by decide +kernel) ⟨Nat.le_of_ble_eq_true rfl, Nat.le_of_ble_eq_true rfl⟩) hK hG hP hD hS hA [0, 1, 2, 3, 4] rfl rfl 5 0 rfl rfl rfl hl.1 rfl (Nat.le_of_ble_eq_true rfl) dX5_bestWith_2 ⟨Nat.le_of_ble_eq_true rfl, Nat.le_of_ble_eq_true rfl⟩) hP hD hS hA [0, 1, 2, 3, 4] rfl (fun E u ce q9 H locs hw hP hS h1 h2 h3 => kx_out (ho, ht) hnt hlocks h1 h2 h3 hK hS hP hD hw (Nat.le_of_ble_eq_true rfl) (Nat.le_of_ble_eq_true rfl)) (fun u H locs hw hP hS => ?_)
  try dsimp only at hw
  refine lv_aload_n hx hb dX5_bestWith_5 rfl (lv_at hl 0 rfl) ?_
  refine va_get (D := gD G) (ci := 5) (v := .ref qd) (C := RX5) (T := TX5) (N := 7) hx hb hts k_X5_bestWith_inX5 hown hK hP 0 rfl rfl 0 (by decide) (hts _ k_X5_bestWith_f10) (fun _ h9 => h9) rfl dX5_bestWith_6 ?_
  refine kcR_i (kr_V [] ⟨hx, hb, hml, hown, hts⟩ (cn_X1_all l G qd qdb qde qdf db de df dc dp dk hw H.size) (cwV 0 hts gX5_bestWith_X1_all rfl rfl rfl (by decide +kernel) ⟨Nat.le_of_ble_eq_true rfl, Nat.le_of_ble_eq_true rfl⟩) hK hG hP hD hS hA [1, 2, 3, 4] rfl rfl 1 1 rfl rfl rfl hl.1 rfl (Nat.le_of_ble_eq_true rfl) dX5_bestWith_9 ⟨Nat.le_of_ble_eq_true rfl, Nat.le_of_ble_eq_true rfl⟩) hP hD hS hA [1, 2, 3, 4] rfl (fun r1 u H locs hw hP hS => ?_)
  try dsimp only at hw
  refine lv_iload_n hx hb dX5_bestWith_12 rfl (lv_at hl 1 rfl) ?_
  refine kcR_i (kr_S [.int r1] ⟨hx, hb, hml, hown, hts⟩ (cn_X5_bit l G a1 hw H.size) (va_cwS 1 hts gX5_bestWith_X5_bit rfl rfl rfl (by decide +kernel) ⟨Nat.le_of_ble_eq_true rfl, Nat.le_of_ble_eq_true rfl⟩) hK hG hP hD hS hA [] rfl rfl rfl hl.1 rfl (Nat.le_of_ble_eq_true rfl) dX5_bestWith_13 ⟨Nat.le_of_ble_eq_true rfl, Nat.le_of_ble_eq_true rfl⟩) hP hD hS hA [] rfl (fun r2 u H locs hw hP hS => ?_)
  try dsimp only at hw
  refine lv_iconst (v := -1) hx hb dX5_bestWith_16 (by decide) ?_
  refine lv_ixor hx hb dX5_bestWith_17 ?_
  refine lv_iand hx hb dX5_bestWith_18 ?_
  refine lv_aload_n hx hb dX5_bestWith_19 rfl (lv_at hl 0 rfl) ?_
  refine va_get (D := gD G) (ci := 5) (v := .ref qd) (C := RX5) (T := TX5) (N := 7) hx hb hts k_X5_bestWith_inX5 hown hK hP 0 rfl rfl 0 (by decide) (hts _ k_X5_bestWith_f10) (fun _ h9 => h9) rfl dX5_bestWith_20 ?_
  refine lv_iload_n hx hb dX5_bestWith_23 rfl (lv_at hl 1 rfl) ?_
  refine kcR_i (kr_V [.int (r1 &&& (r2 ^^^ (-1 : Int32)))] ⟨hx, hb, hml, hown, hts⟩ (cn_X1_conflictsWith l G qd qdb qde qdf db de df dc dp dk a1 hw H.size) (cwV 1 hts gX5_bestWith_X1_conflictsWith rfl rfl rfl (by decide +kernel) ⟨Nat.le_of_ble_eq_true rfl, Nat.le_of_ble_eq_true rfl⟩) hK hG hP hD hS hA [1, 2, 3, 4] rfl rfl 1 1 rfl rfl rfl hl.1 rfl (Nat.le_of_ble_eq_true rfl) dX5_bestWith_24 ⟨Nat.le_of_ble_eq_true rfl, Nat.le_of_ble_eq_true rfl⟩) hP hD hS hA [1, 2, 3, 4] rfl (fun r3 u H locs hw hP hS => ?_)
  try dsimp only at hw
  refine lv_iconst (v := -1) hx hb dX5_bestWith_27 (by decide) ?_
  refine lv_ixor hx hb dX5_bestWith_28 ?_
  refine lv_iand hx hb dX5_bestWith_29 ?_
  refine lv_istore_n (lv' := [(2, .int ((r1 &&& (r2 ^^^ (-1 : Int32))) &&& (r3 ^^^ (-1 : Int32)))), (0, .ref qm), (1, .int a1)]) hx hb dX5_bestWith_30 rfl hl (by decide) rfl (fun ls hl => ?_)
  refine lv_aload_n hx hb dX5_bestWith_31 rfl (lv_at hl 1 rfl) ?_
  refine va_get (D := gD G) (ci := 5) (v := .ref qd) (C := RX5) (T := TX5) (N := 7) hx hb hts k_X5_bestWith_inX5 hown hK hP 0 rfl rfl 0 (by decide) (hts _ k_X5_bestWith_f10) (fun _ h9 => h9) rfl dX5_bestWith_32 ?_
  refine va_get (D := gD G) (ci := 1) (v := .ref qdf) (C := RX1) (T := TX1) (N := 6) hx hb hts k_X5_bestWith_inX1 hown hK hP 1 rfl rfl 2 (by decide) (hts _ k_X5_bestWith_f78) (fun _ h9 => h9) rfl dX5_bestWith_35 ?_
  refine lv_iload_n hx hb dX5_bestWith_38 rfl (lv_at hl 2 rfl) ?_
  obtain ⟨h4, hw⟩ := hw
  refine va_iald hx hb hK hP 4 0 rfl rfl h4 dX5_bestWith_39 ?_
  refine lv_aload_n hx hb dX5_bestWith_40 rfl (lv_at hl 1 rfl) ?_
  refine va_get (D := gD G) (ci := 5) (v := .ref qx) (C := RX5) (T := TX5) (N := 7) hx hb hts k_X5_bestWith_inX5 hown hK hP 0 rfl rfl 6 (by decide) (hts _ k_X5_bestWith_f48) (fun _ h9 => h9) rfl dX5_bestWith_41 ?_
  refine lv_aload_n hx hb dX5_bestWith_44 rfl (lv_at hl 1 rfl) ?_
  refine va_get (D := gD G) (ci := 5) (v := .ref qd) (C := RX5) (T := TX5) (N := 7) hx hb hts k_X5_bestWith_inX5 hown hK hP 0 rfl rfl 0 (by decide) (hts _ k_X5_bestWith_f10) (fun _ h9 => h9) rfl dX5_bestWith_45 ?_
  refine lv_iload_n hx hb dX5_bestWith_48 rfl (lv_at hl 0 rfl) ?_
  refine kc_i (kr_V [.int (df a1.toNatClampNeg)] ⟨hx, hb, hml, hown, hts⟩ (cn_X0_fameAmong l G qx qxo qxc qxt qd qdb qde qdf ho hc ht db de df dc dp dk ((r1 &&& (r2 ^^^ (-1 : Int32))) &&& (r3 ^^^ (-1 : Int32))) hw H.size) (cwV 2 hts gX5_bestWith_X0_fameAmong rfl rfl rfl (by decide +kernel) ⟨Nat.le_of_ble_eq_true rfl, Nat.le_of_ble_eq_true rfl⟩) hK hG hP hD hS hA [5, 6, 7, 8, 1, 2, 3, 4] rfl rfl 0 5 rfl rfl rfl hl.1 rfl (Nat.le_of_ble_eq_true rfl) dX5_bestWith_49 ⟨Nat.le_of_ble_eq_true rfl, Nat.le_of_ble_eq_true rfl⟩) hP hD hS hA [5, 6, 7, 8, 1, 2, 3, 4] [0] rfl rfl rfl (by decide) (fun r5 u H locs hw hP hD hS => ?_)
  obtain ⟨ho_6, ht_7⟩ := u
  try dsimp only at hw
  have hP := hP.sub (ws' := (w0_X5_bestWith G qm qd qs qn qk qt qr qx qdb qde qdf qxo qxc qxt db de df dc dp dk ho_6 hc ht_7)) [0, 5, 6, 7, 8, 1, 2, 3, 4] rfl
  have hD := hD.sub (ws' := (w0_X5_bestWith G qm qd qs qn qk qt qr qx qdb qde qdf qxo qxc qxt db de df dc dp dk ho_6 hc ht_7)) [0, 5, 6, 7, 8, 1, 2, 3, 4] rfl rfl
  refine lv_iadd hx hb dX5_bestWith_52 ?_
  exact fin_x (Nat.le_of_ble_eq_true rfl) (Nat.le_of_ble_eq_true rfl) (fin_i (ho_6, ht_7) hx hb hr hlocks hK hS hP hD hw dX5_bestWith_53)

abbrev w0_X5_bookedShare (G : mG) (qm : Nat) (qd : Nat) (qs : Nat) (qn : Nat) (qk : Nat) (qt : Nat) (qr : Nat) (qx : Nat) (qdb : Nat) (qde : Nat) (qdf : Nat) (db : Nat → Int32) (de : Nat → Int32) (df : Nat → Int32) (dc : Int32) (dp : Int32) (dk : Int32) : va_W := [(qm, .inr (5, [.ref qd, .ref qs, .ref qn, .ref qk, .ref qt, .ref qr, .ref qx])), (qd, .inr (1, [.ref qdb, .ref qde, .ref qdf, .int dc, .int dp, .int dk])), (qdb, .inl (gI G, (14, .inl db))), (qde, .inl (gI G, (14, .inl de))), (qdf, .inl (gI G, (14, .inl df)))]
set_option maxRecDepth 100000 in
theorem k_X5_bookedShare_inX5 : ∀ w ∈ u_ws RX5 TX5 7, w ∈ wsX5_bookedShare := by decide +kernel
set_option maxRecDepth 100000 in
theorem k_X5_bookedShare_f10 : Cond.fieldLink RX5 10 "RehearsalRoom" "day" "LRehearsalRoom$Day;" ∈ wsX5_bookedShare := by decide +kernel
set_option maxRecDepth 100000 in
theorem k_X5_bookedShare_inX1 : ∀ w ∈ u_ws RX1 TX1 6, w ∈ wsX5_bookedShare := by decide +kernel
set_option maxRecDepth 100000 in
theorem k_X5_bookedShare_f128 : Cond.fieldLink RX5 128 "RehearsalRoom$Day" "bookings" "I" ∈ wsX5_bookedShare := by decide +kernel
set_option maxRecDepth 100000 in
theorem k_X5_bookedShare_c229 : Cond.constantDouble RX5 229 (4636455816377925632) ∈ wsX5_bookedShare := by decide +kernel
set_option maxHeartbeats 8000000 in
set_option maxRecDepth 100000 in
theorem cn_X5_bookedShare (l : Launch) (G : mG) (qm : Nat) (qd : Nat) (qs : Nat) (qn : Nat) (qk : Nat) (qt : Nat) (qr : Nat) (qx : Nat) (qdb : Nat) (qde : Nat) (qdf : Nat) (db : Nat → Int32) (de : Nat → Int32) (df : Nat → Int32) (dc : Int32) (dp : Int32) (dk : Int32) {Q : UInt64 → Prop} (hw : wn_X5_bookedShare db de dc dk Q) (sz : Nat) :
    Met l yX5_bookedShare wsX5_bookedShare ({ frames := 3, cells := 0, slots := 0, locals := 64 } : Room) (va_Pc [.ref qm] (mPre G (w0_X5_bookedShare G qm qd qs qn qk qt qr qx qdb qde qdf db de df dc dp dk) sz)) (va_Qd (fun (r : UInt64) (u : Unit) => Q r) (mBk G (va_A (w0_X5_bookedShare G qm qd qs qn qk qt qr qx qdb qde qdf db de df dc dp dk) sz) (fun (u : Unit) => (w0_X5_bookedShare G qm qd qs qn qk qt qr qx qdb qde qdf db de df dc dp dk))) (va_A (w0_X5_bookedShare G qm qd qs qn qk qt qr qx qdb qde qdf db de df dc dp dk) sz)) 0 0 (va_A (w0_X5_bookedShare G qm qd qs qn qk qt qr qx qdb qde qdf db de df dc dp dk) sz) := by
  refine ms_d (cc := cX5_bookedShare) (maxL := 1) (ret := some .double) (post := (fun (r : UInt64) (u : Unit) => Q r)) (w1 := (fun (u : Unit) => (w0_X5_bookedShare G qm qd qs qn qk qt qr qx qdb qde qdf db de df dc dp dk))) (by decide) rfl (Nat.le_of_ble_eq_true rfl) ?_ sz
  intro p e s m below meth c A ls H locs hx hb hr hml hown hts hlocks hK hG hP hD hS hA hl
  have hown : s.vm.findClass RX5 = some m.cls := hown
  have hl : lv_has ls 1 [(0, .ref qm)] := hl
  unfold wn_X5_bookedShare at hw
  refine lv_aload_n hx hb dX5_bookedShare_0 rfl (lv_at hl 0 rfl) ?_
  refine va_get (D := gD G) (ci := 5) (v := .ref qd) (C := RX5) (T := TX5) (N := 7) hx hb hts k_X5_bookedShare_inX5 hown hK hP 0 rfl rfl 0 (by decide) (hts _ k_X5_bookedShare_f10) (fun _ h9 => h9) rfl dX5_bookedShare_1 ?_
  refine lv_aload_n hx hb dX5_bookedShare_4 rfl (lv_at hl 0 rfl) ?_
  refine va_get (D := gD G) (ci := 5) (v := .ref qd) (C := RX5) (T := TX5) (N := 7) hx hb hts k_X5_bookedShare_inX5 hown hK hP 0 rfl rfl 0 (by decide) (hts _ k_X5_bookedShare_f10) (fun _ h9 => h9) rfl dX5_bookedShare_5 ?_
  refine va_get (D := gD G) (ci := 1) (v := .int dk) (C := RX1) (T := TX1) (N := 6) hx hb hts k_X5_bookedShare_inX1 hown hK hP 1 rfl rfl 5 (by decide) (hts _ k_X5_bookedShare_f128) (fun _ h9 => h9) rfl dX5_bookedShare_8 ?_
  refine kcR_i (kr_V [] ⟨hx, hb, hml, hown, hts⟩ (cn_X1_quartersOfSet l G qd qdb qde qdf db de df dc dp dk dk hw H.size) (cwV 1 hts gX5_bookedShare_X1_quartersOfSet rfl rfl rfl (by decide +kernel) ⟨Nat.le_of_ble_eq_true rfl, Nat.le_of_ble_eq_true rfl⟩) hK hG hP hD hS hA [1, 2, 3, 4] rfl rfl 1 1 rfl rfl rfl hl.1 rfl (Nat.le_of_ble_eq_true rfl) dX5_bookedShare_11 ⟨Nat.le_of_ble_eq_true rfl, Nat.le_of_ble_eq_true rfl⟩) hP hD hS hA [1, 2, 3, 4] rfl (fun r1 u H locs hw hP hS => ?_)
  try dsimp only at hw
  refine lv_i2d hx hb dX5_bookedShare_14 ?_
  refine lv_ldc2d (v := 4636455816377925632) hx hb hown (hts _ k_X5_bookedShare_c229) dX5_bookedShare_15 ?_
  obtain ⟨h2, hw⟩ := hw
  refine lv_ddiv hx hb dX5_bookedShare_18 h2 ?_
  exact fin_d () hx hb hr hlocks hK hS hP hD hw dX5_bookedShare_19

abbrev w0_X5_mix (G : mG) : va_W := []
set_option maxRecDepth 100000 in
theorem k_X5_mix_c323 : Cond.constantLong RX5 323 (31) ∈ wsX5_mix := by decide +kernel
set_option maxHeartbeats 8000000 in
set_option maxRecDepth 100000 in
theorem cn_X5_mix (l : Launch) (G : mG) (a0 : Int64) (a2 : Int64) {Q : Int64 → Prop} (hw : wn_X5_mix a0 a2 Q) (sz : Nat) :
    Met l yX5_mix wsX5_mix ({ frames := 0, cells := 0, slots := 0, locals := 0 } : Room) (va_Pc [.long a0, .long a2] (mPre G (w0_X5_mix G) sz)) (va_Ql (fun (r : Int64) (u : Unit) => Q r) (mBk G (va_A (w0_X5_mix G) sz) (fun (u : Unit) => (w0_X5_mix G))) (va_A (w0_X5_mix G) sz)) 0 0 (va_A (w0_X5_mix G) sz) := by
  refine ms_l (cc := cX5_mix) (maxL := 4) (ret := some .long) (post := (fun (r : Int64) (u : Unit) => Q r)) (w1 := (fun (u : Unit) => (w0_X5_mix G))) (by decide) rfl (Nat.le_of_ble_eq_true rfl) ?_ sz
  intro p e s m below meth c A ls H locs hx hb hr hml hown hts hlocks hK hG hP hD hS hA hl
  have hown : s.vm.findClass RX5 = some m.cls := hown
  have hl : lv_has ls 4 [(0, .long a0), (2, .long a2)] := hl
  unfold wn_X5_mix at hw
  refine lv_ldc2 (v := 31) hx hb hown (hts _ k_X5_mix_c323) dX5_mix_0 ?_
  refine lv_lload_n hx hb dX5_mix_3 rfl (lv_at hl 0 rfl) ?_
  refine lv_lmul hx hb dX5_mix_4 ?_
  refine lv_lload_n hx hb dX5_mix_5 rfl (lv_at hl 1 rfl) ?_
  refine lv_ladd hx hb dX5_mix_6 ?_
  exact fin_l () hx hb hr hlocks hK hS hP hD hw dX5_mix_7

abbrev w0_X5_bitsOf (G : mG) : va_W := []
set_option maxRecDepth 100000 in
theorem k_X5_bitsOf_c329 : Cond.constantDouble RX5 329 (4611686018427387904) ∈ wsX5_bitsOf := by decide +kernel
set_option maxHeartbeats 8000000 in
set_option maxRecDepth 100000 in
theorem cn_X5_bitsOf (l : Launch) (G : mG) (a0 : UInt64) (a2 : Int32) (a3 : Int32) {Q : Int64 → Prop} (hw : wn_X5_bitsOf a0 a2 a3 Q) (sz : Nat) :
    Met l yX5_bitsOf wsX5_bitsOf ({ frames := 0, cells := 0, slots := 0, locals := 0 } : Room) (va_Pc [.double a0, .int a2, .int a3] (mPre G (w0_X5_bitsOf G) sz)) (va_Ql (fun (r : Int64) (u : Unit) => Q r) (mBk G (va_A (w0_X5_bitsOf G) sz) (fun (u : Unit) => (w0_X5_bitsOf G))) (va_A (w0_X5_bitsOf G) sz)) 0 0 (va_A (w0_X5_bitsOf G) sz) := by
  refine ms_l (cc := cX5_bitsOf) (maxL := 9) (ret := some .long) (post := (fun (r : Int64) (u : Unit) => Q r)) (w1 := (fun (u : Unit) => (w0_X5_bitsOf G))) (by decide) rfl (Nat.le_of_ble_eq_true rfl) ?_ sz
  intro p e s m below meth c A ls H locs hx hb hr hml hown hts hlocks hK hG hP hD hS hA hl
  have hown : s.vm.findClass RX5 = some m.cls := hown
  have hl : lv_has ls 9 [(0, .double a0), (2, .int a2), (3, .int a3)] := hl
  have J72 : ∀ (x0 : UInt64) (x2 : Int32) (x3 : Int32) (x4 : UInt64) (x6 : Int32) (H : Heap) (locs : List Loc) (ls : Array Slot), va_P (gD G) vwCl (w0_X5_bitsOf G) H → va_D A (w0_X5_bitsOf G) → va_S A s.heap H locs → lv_has ls 9 [(0, .double x0), (2, .int x2), (3, .int x3), (4, .double x4), (6, .int x6)] → wj_n_X5_bitsOf_72 Q x0 x2 x3 x4 x6 → W p l e ({ frames := 0, cells := 0, slots := 0, locals := 0 } : Room) s m ([.double a0, .int a2, .int a3] : List Value).toArray below meth c H locs 0 0 (MQ below (va_Ql (fun (r : Int64) (u : Unit) => Q r) (mBk G A (fun (u : Unit) => (w0_X5_bitsOf G))) A) ([.double a0, .int a2, .int a3] : List Value).toArray s 0 0 A) (F0 m 72 ls []) := by
    intro x0 x2 x3 x4 x6 H locs ls hP hD hS hl hw
    unfold wj_n_X5_bitsOf_72 at hw
    refine lv_dload hx hb dX5_bitsOf_72 (lv_at hl 3 rfl) ?_
    refine lv_dconst1 hx hb dX5_bitsOf_74 ?_
    obtain ⟨h4, hw⟩ := hw
    refine lv_dsub hx hb dX5_bitsOf_75 h4 ?_
    refine lv_lconst (v := 1) hx hb dX5_bitsOf_76 (by decide) ?_
    refine lv_iload_n hx hb dX5_bitsOf_77 rfl (lv_at hl 1 rfl) ?_
    refine lv_lshl hx hb dX5_bitsOf_78 rfl ?_
    refine lv_l2d hx hb dX5_bitsOf_79 ?_
    obtain ⟨h5, hw⟩ := hw
    refine lv_dmul hx hb dX5_bitsOf_80 h5 ?_
    refine lv_d2l hx hb dX5_bitsOf_81 ?_
    refine lv_topl (fun v6 ev6 => ?_)
    have hw := hw v6 ev6
    refine lv_lstore (lv' := [(7, .long v6), (0, .double x0), (2, .int x2), (3, .int x3), (4, .double x4), (6, .int x6)]) hx hb dX5_bitsOf_82 hl (by decide) rfl (fun ls hl => ?_)
    refine lv_iload hx hb dX5_bitsOf_84 (lv_at hl 5 rfl) ?_
    refine lv_i2l hx hb dX5_bitsOf_86 rfl ?_
    refine lv_iload_n hx hb dX5_bitsOf_87 rfl (lv_at hl 2 rfl) ?_
    refine lv_lshl hx hb dX5_bitsOf_88 rfl ?_
    refine lv_lload hx hb dX5_bitsOf_89 (lv_at hl 0 rfl) ?_
    refine lv_ladd hx hb dX5_bitsOf_91 ?_
    exact fin_l () hx hb hr hlocks hK hS hP hD hw dX5_bitsOf_92
  have J45 : ∀ (n : Nat) (x0 : UInt64) (x2 : Int32) (x3 : Int32) (x4 : UInt64) (x6 : Int32) (H : Heap) (locs : List Loc) (ls : Array Slot), va_P (gD G) vwCl (w0_X5_bitsOf G) H → va_D A (w0_X5_bitsOf G) → va_S A s.heap H locs → lv_has ls 9 [(0, .double x0), (2, .int x2), (3, .int x3), (4, .double x4), (6, .int x6)] → wl_n_X5_bitsOf_45 Q n x0 x2 x3 x4 x6 → W p l e ({ frames := 0, cells := 0, slots := 0, locals := 0 } : Room) s m ([.double a0, .int a2, .int a3] : List Value).toArray below meth c H locs 0 0 (MQ below (va_Ql (fun (r : Int64) (u : Unit) => Q r) (mBk G A (fun (u : Unit) => (w0_X5_bitsOf G))) A) ([.double a0, .int a2, .int a3] : List Value).toArray s 0 0 A) (F0 m 45 ls []) := by
    intro n
    induction n with
    | zero => intro x0 x2 x3 x4 x6 H locs ls hP hD hS hl hw; exact False.elim hw
    | succ n ih =>
      intro x0 x2 x3 x4 x6 H locs ls hP hD hS hl hw
      rw [wl_n_X5_bitsOf_45] at hw
      refine lv_dload hx hb dX5_bitsOf_45 (lv_at hl 3 rfl) ?_
      refine lv_dconst1 hx hb dX5_bitsOf_47 ?_
      refine lv_dcmp hx hb dX5_bitsOf_48 ?_
      refine lv_if_ge (tgt := 72) hx hb dX5_bitsOf_49 (by decide) (fun cd3 => ?_) (fun cd3 => ?_)
      · have hw := hw.1 cd3
        exact J72 x0 x2 x3 x4 x6 _ _ _ hP hD hS hl hw
      · have hw := hw.2 cd3
        refine lv_iload hx hb dX5_bitsOf_52 (lv_at hl 4 rfl) ?_
        refine lv_iconst (v := 1) hx hb dX5_bitsOf_54 (by decide) ?_
        refine lv_icmp_le (tgt := 72) hx hb dX5_bitsOf_55 (by decide) (fun cd7 => ?_) (fun cd7 => ?_)
        · have hw := hw.1 cd7
          exact J72 x0 x2 x3 x4 x6 _ _ _ hP hD hS hl hw
        · have hw := hw.2 cd7
          refine lv_dload hx hb dX5_bitsOf_58 (lv_at hl 3 rfl) ?_
          refine lv_ldc2d (v := 4611686018427387904) hx hb hown (hts _ k_X5_bitsOf_c329) dX5_bitsOf_60 ?_
          obtain ⟨h8, hw⟩ := hw
          refine lv_dmul hx hb dX5_bitsOf_63 h8 ?_
          refine lv_dstore (lv' := [(4, .double (FP.dmul x4 (4611686018427387904 : UInt64))), (0, .double x0), (2, .int x2), (3, .int x3), (6, .int x6)]) hx hb dX5_bitsOf_64 hl (by decide) rfl (fun ls hl => ?_)
          refine lv_iinc (v := (x6 + (-1))) (lv' := [(6, .int (x6 + (-1))), (4, .double (FP.dmul x4 (4611686018427387904 : UInt64))), (0, .double x0), (2, .int x2), (3, .int x3)]) hx hb dX5_bitsOf_66 hl (k := 4) rfl rfl (by decide) rfl (fun ls hl => ?_)
          refine lv_goto (tgt := 45) hx hb dX5_bitsOf_69 (by decide) ?_
          exact ih x0 x2 x3 (FP.dmul x4 (4611686018427387904 : UInt64)) (x6 + (-1)) _ _ _ hP hD hS (lv_sub hl [2, 3, 4, 1, 0] rfl) hw
  have J14 : ∀ (n : Nat) (x0 : UInt64) (x2 : Int32) (x3 : Int32) (x4 : UInt64) (x6 : Int32) (H : Heap) (locs : List Loc) (ls : Array Slot), va_P (gD G) vwCl (w0_X5_bitsOf G) H → va_D A (w0_X5_bitsOf G) → va_S A s.heap H locs → lv_has ls 9 [(0, .double x0), (2, .int x2), (3, .int x3), (4, .double x4), (6, .int x6)] → wl_n_X5_bitsOf_14 Q n x0 x2 x3 x4 x6 → W p l e ({ frames := 0, cells := 0, slots := 0, locals := 0 } : Room) s m ([.double a0, .int a2, .int a3] : List Value).toArray below meth c H locs 0 0 (MQ below (va_Ql (fun (r : Int64) (u : Unit) => Q r) (mBk G A (fun (u : Unit) => (w0_X5_bitsOf G))) A) ([.double a0, .int a2, .int a3] : List Value).toArray s 0 0 A) (F0 m 14 ls []) := by
    intro n
    induction n with
    | zero => intro x0 x2 x3 x4 x6 H locs ls hP hD hS hl hw; exact False.elim hw
    | succ n ih =>
      intro x0 x2 x3 x4 x6 H locs ls hP hD hS hl hw
      rw [wl_n_X5_bitsOf_14] at hw
      refine lv_dload hx hb dX5_bitsOf_14 (lv_at hl 3 rfl) ?_
      refine lv_ldc2d (v := 4611686018427387904) hx hb hown (hts _ k_X5_bitsOf_c329) dX5_bitsOf_16 ?_
      refine lv_dcmp hx hb dX5_bitsOf_19 ?_
      refine lv_if_lt (tgt := 45) hx hb dX5_bitsOf_20 (by decide) (fun cd2 => ?_) (fun cd2 => ?_)
      · have hw := hw.1 cd2
        obtain ⟨n45, hw⟩ := hw
        exact J45 n45 x0 x2 x3 x4 x6 _ _ _ hP hD hS hl hw
      · have hw := hw.2 cd2
        refine lv_iload hx hb dX5_bitsOf_23 (lv_at hl 4 rfl) ?_
        refine lv_iconst (v := 2) hx hb dX5_bitsOf_25 (by decide) ?_
        refine lv_iload_n hx hb dX5_bitsOf_26 rfl (lv_at hl 2 rfl) ?_
        refine lv_imul hx hb dX5_bitsOf_27 ?_
        refine lv_icmp_ge (tgt := 45) hx hb dX5_bitsOf_28 (by decide) (fun cd9 => ?_) (fun cd9 => ?_)
        · have hw := hw.1 cd9
          obtain ⟨n45, hw⟩ := hw
          exact J45 n45 x0 x2 x3 x4 x6 _ _ _ hP hD hS hl hw
        · have hw := hw.2 cd9
          refine lv_dload hx hb dX5_bitsOf_31 (lv_at hl 3 rfl) ?_
          refine lv_ldc2d (v := 4611686018427387904) hx hb hown (hts _ k_X5_bitsOf_c329) dX5_bitsOf_33 ?_
          obtain ⟨h10, hw⟩ := hw
          refine lv_ddiv hx hb dX5_bitsOf_36 h10 ?_
          refine lv_dstore (lv' := [(4, .double (FP.ddiv x4 (4611686018427387904 : UInt64))), (0, .double x0), (2, .int x2), (3, .int x3), (6, .int x6)]) hx hb dX5_bitsOf_37 hl (by decide) rfl (fun ls hl => ?_)
          refine lv_iinc (v := (x6 + 1)) (lv' := [(6, .int (x6 + 1)), (4, .double (FP.ddiv x4 (4611686018427387904 : UInt64))), (0, .double x0), (2, .int x2), (3, .int x3)]) hx hb dX5_bitsOf_39 hl (k := 4) rfl rfl (by decide) rfl (fun ls hl => ?_)
          refine lv_goto (tgt := 14) hx hb dX5_bitsOf_42 (by decide) ?_
          exact ih x0 x2 x3 (FP.ddiv x4 (4611686018427387904 : UInt64)) (x6 + 1) _ _ _ hP hD hS (lv_sub hl [2, 3, 4, 1, 0] rfl) hw
  unfold wn_X5_bitsOf at hw
  refine lv_dload_n hx hb dX5_bitsOf_0 rfl (lv_at hl 0 rfl) ?_
  refine lv_dconst0 hx hb dX5_bitsOf_1 ?_
  refine lv_dcmp hx hb dX5_bitsOf_2 ?_
  refine lv_if_gt (tgt := 8) hx hb dX5_bitsOf_3 (by decide) (fun cd1 => ?_) (fun cd1 => ?_)
  · have hw := hw.1 cd1
    refine lv_dload_n hx hb dX5_bitsOf_8 rfl (lv_at hl 0 rfl) ?_
    refine lv_dstore (lv' := [(4, .double a0), (0, .double a0), (2, .int a2), (3, .int a3)]) hx hb dX5_bitsOf_9 hl (by decide) rfl (fun ls hl => ?_)
    refine lv_iload_n hx hb dX5_bitsOf_11 rfl (lv_at hl 3 rfl) ?_
    refine lv_istore (lv' := [(6, .int a3), (4, .double a0), (0, .double a0), (2, .int a2), (3, .int a3)]) hx hb dX5_bitsOf_12 hl (by decide) rfl (fun ls hl => ?_)
    obtain ⟨n14, hw⟩ := hw
    exact J14 n14 a0 a2 a3 a0 a3 _ _ _ hP hD hS (lv_sub hl [2, 3, 4, 1, 0] rfl) hw
  · have hw := hw.2 cd1
    refine lv_lconst (v := 0) hx hb dX5_bitsOf_6 (by decide) ?_
    exact fin_l () hx hb hr hlocks hK hS hP hD hw dX5_bitsOf_7

abbrev w0_X5_doubleBits (G : mG) : va_W := []
set_option maxHeartbeats 8000000 in
set_option maxRecDepth 100000 in
theorem cn_X5_doubleBits (l : Launch) (G : mG) (a0 : UInt64) {Q : Int64 → Prop} (hw : wn_X5_doubleBits a0 Q) (sz : Nat) :
    Met l yX5_doubleBits wsX5_doubleBits ({ frames := 1, cells := 0, slots := 0, locals := 28 } : Room) (va_Pc [.double a0] (mPre G (w0_X5_doubleBits G) sz)) (va_Ql (fun (r : Int64) (u : Unit) => Q r) (mBk G (va_A (w0_X5_doubleBits G) sz) (fun (u : Unit) => (w0_X5_doubleBits G))) (va_A (w0_X5_doubleBits G) sz)) 0 0 (va_A (w0_X5_doubleBits G) sz) := by
  refine ms_l (cc := cX5_doubleBits) (maxL := 2) (ret := some .long) (post := (fun (r : Int64) (u : Unit) => Q r)) (w1 := (fun (u : Unit) => (w0_X5_doubleBits G))) (by decide) rfl (Nat.le_of_ble_eq_true rfl) ?_ sz
  intro p e s m below meth c A ls H locs hx hb hr hml hown hts hlocks hK hG hP hD hS hA hl
  have hown : s.vm.findClass RX5 = some m.cls := hown
  have hl : lv_has ls 2 [(0, .double a0)] := hl
  unfold wn_X5_doubleBits at hw
  refine lv_dload_n hx hb dX5_doubleBits_0 rfl (lv_at hl 0 rfl) ?_
  refine lv_bipush (v := 52) hx hb dX5_doubleBits_1 (by decide) ?_
  refine lv_sipush (v := 1023) hx hb dX5_doubleBits_3 (by decide) ?_
  refine kcR_l (kr_S [] ⟨hx, hb, hml, hown, hts⟩ (cn_X5_bitsOf l G a0 (52 : Int32) (1023 : Int32) hw H.size) (va_cwS 3 hts gX5_doubleBits_X5_bitsOf rfl rfl rfl (by decide +kernel) ⟨Nat.le_of_ble_eq_true rfl, Nat.le_of_ble_eq_true rfl⟩) hK hG hP hD hS hA [] rfl rfl rfl hl.1 rfl (Nat.le_of_ble_eq_true rfl) dX5_doubleBits_6 ⟨Nat.le_of_ble_eq_true rfl, Nat.le_of_ble_eq_true rfl⟩) hP hD hS hA [] rfl (fun r1 u H locs hw hP hS => ?_)
  try dsimp only at hw
  exact fin_l () hx hb hr hlocks hK hS hP hD hw dX5_doubleBits_9

abbrev w0_X5_mixWhole (G : mG) (qm : Nat) (qd : Nat) (qs : Nat) (qn : Nat) (qk : Nat) (qt : Nat) (qr : Nat) (qx : Nat) (qdb : Nat) (qde : Nat) (qdf : Nat) (qsa : Nat) (qs0 : Nat) (qs0b : Nat) (qs0e : Nat) (qs0f : Nat) (qs1 : Nat) (qs1b : Nat) (qs1e : Nat) (qs1f : Nat) (qs2 : Nat) (qs2b : Nat) (qs2e : Nat) (qs2f : Nat) (qs3 : Nat) (qs3b : Nat) (qs3e : Nat) (qs3f : Nat) (qs4 : Nat) (qs4b : Nat) (qs4e : Nat) (qs4f : Nat) (qs5 : Nat) (qs5b : Nat) (qs5e : Nat) (qs5f : Nat) (qro : Nat) (qrg : Nat) (qxo : Nat) (qxc : Nat) (qxt : Nat) (db : Nat → Int32) (de : Nat → Int32) (df : Nat → Int32) (dc : Int32) (dp : Int32) (dk : Int32) (so : Int32) (sn : Int32) (sb : Nat → Nat → Int32) (se : Nat → Nat → Int32) (sf : Nat → Nat → Int32) (sc : Nat → Int32) (sp : Nat → Int32) (sk : Nat → Int32) (ro : Nat → Int32) (rg : Nat → Int32) (ho : Nat → Int32) (hc : Nat → Int32) (ht : Nat → Int32) : va_W := [(qm, .inr (5, [.ref qd, .ref qs, .ref qn, .ref qk, .ref qt, .ref qr, .ref qx])), (qd, .inr (1, [.ref qdb, .ref qde, .ref qdf, .int dc, .int dp, .int dk])), (qdb, .inl (gI G, (14, .inl db))), (qde, .inl (gI G, (14, .inl de))), (qdf, .inl (gI G, (14, .inl df))), (qs, .inr (3, [.ref qsa, .int so, .int sn])), (qsa, .inl (gQ G, (6, .inr (.inr (.inr (.inr (g6 qs0 qs1 qs2 qs3 qs4 qs5))))))), (qs0, .inr (1, [.ref qs0b, .ref qs0e, .ref qs0f, .int (sc 0), .int (sp 0), .int (sk 0)])), (qs0b, .inl (gI G, (14, .inl (sb 0)))), (qs0e, .inl (gI G, (14, .inl (se 0)))), (qs0f, .inl (gI G, (14, .inl (sf 0)))), (qs1, .inr (1, [.ref qs1b, .ref qs1e, .ref qs1f, .int (sc 1), .int (sp 1), .int (sk 1)])), (qs1b, .inl (gI G, (14, .inl (sb 1)))), (qs1e, .inl (gI G, (14, .inl (se 1)))), (qs1f, .inl (gI G, (14, .inl (sf 1)))), (qs2, .inr (1, [.ref qs2b, .ref qs2e, .ref qs2f, .int (sc 2), .int (sp 2), .int (sk 2)])), (qs2b, .inl (gI G, (14, .inl (sb 2)))), (qs2e, .inl (gI G, (14, .inl (se 2)))), (qs2f, .inl (gI G, (14, .inl (sf 2)))), (qs3, .inr (1, [.ref qs3b, .ref qs3e, .ref qs3f, .int (sc 3), .int (sp 3), .int (sk 3)])), (qs3b, .inl (gI G, (14, .inl (sb 3)))), (qs3e, .inl (gI G, (14, .inl (se 3)))), (qs3f, .inl (gI G, (14, .inl (sf 3)))), (qs4, .inr (1, [.ref qs4b, .ref qs4e, .ref qs4f, .int (sc 4), .int (sp 4), .int (sk 4)])), (qs4b, .inl (gI G, (14, .inl (sb 4)))), (qs4e, .inl (gI G, (14, .inl (se 4)))), (qs4f, .inl (gI G, (14, .inl (sf 4)))), (qs5, .inr (1, [.ref qs5b, .ref qs5e, .ref qs5f, .int (sc 5), .int (sp 5), .int (sk 5)])), (qs5b, .inl (gI G, (14, .inl (sb 5)))), (qs5e, .inl (gI G, (14, .inl (se 5)))), (qs5f, .inl (gI G, (14, .inl (sf 5)))), (qr, .inr (2, [.ref qro, .ref qrg])), (qro, .inl (gI G, (14, .inl ro))), (qrg, .inl (gI G, (14, .inl rg))), (qx, .inr (0, [.ref qxo, .ref qxc, .ref qxt])), (qxo, .inl (gI G, (14, .inl ho))), (qxc, .inl (gI G, (14, .inl hc))), (qxt, .inl (gI G, (15, .inl ht)))]
set_option maxHeartbeats 8000000 in
set_option maxRecDepth 100000 in
theorem cn_X5_mixWhole (l : Launch) (G : mG) (qm : Nat) (qd : Nat) (qs : Nat) (qn : Nat) (qk : Nat) (qt : Nat) (qr : Nat) (qx : Nat) (qdb : Nat) (qde : Nat) (qdf : Nat) (qsa : Nat) (qs0 : Nat) (qs0b : Nat) (qs0e : Nat) (qs0f : Nat) (qs1 : Nat) (qs1b : Nat) (qs1e : Nat) (qs1f : Nat) (qs2 : Nat) (qs2b : Nat) (qs2e : Nat) (qs2f : Nat) (qs3 : Nat) (qs3b : Nat) (qs3e : Nat) (qs3f : Nat) (qs4 : Nat) (qs4b : Nat) (qs4e : Nat) (qs4f : Nat) (qs5 : Nat) (qs5b : Nat) (qs5e : Nat) (qs5f : Nat) (qro : Nat) (qrg : Nat) (qxo : Nat) (qxc : Nat) (qxt : Nat) (db : Nat → Int32) (de : Nat → Int32) (df : Nat → Int32) (dc : Int32) (dp : Int32) (dk : Int32) (so : Int32) (sn : Int32) (sb : Nat → Nat → Int32) (se : Nat → Nat → Int32) (sf : Nat → Nat → Int32) (sc : Nat → Int32) (sp : Nat → Int32) (sk : Nat → Int32) (ro : Nat → Int32) (rg : Nat → Int32) (ho : Nat → Int32) (hc : Nat → Int32) (ht : Nat → Int32) (a1 : Int64) {Q : Int64 → (Nat → Int32) → (Nat → Int32) → (Nat → Int32) → (Nat → Int32) → (Nat → Int32) → Prop} (hw : wn_X5_mixWhole db de df dc dp dk sn ro rg ho hc ht a1 Q) (sz : Nat) :
    Met l yX5_mixWhole wsX5_mixWhole ({ frames := 21, cells := 0, slots := 0, locals := 544 } : Room) (va_Pc [.ref qm, .long a1] (mPre G (w0_X5_mixWhole G qm qd qs qn qk qt qr qx qdb qde qdf qsa qs0 qs0b qs0e qs0f qs1 qs1b qs1e qs1f qs2 qs2b qs2e qs2f qs3 qs3b qs3e qs3f qs4 qs4b qs4e qs4f qs5 qs5b qs5e qs5f qro qrg qxo qxc qxt db de df dc dp dk so sn sb se sf sc sp sk ro rg ho hc ht) sz)) (va_Ql (fun (r : Int64) (u : (Nat → Int32) × (Nat → Int32) × (Nat → Int32) × (Nat → Int32) × (Nat → Int32)) => Q r u.1 u.2.1 u.2.2.1 u.2.2.2.1 u.2.2.2.2) (mBk G (va_A (w0_X5_mixWhole G qm qd qs qn qk qt qr qx qdb qde qdf qsa qs0 qs0b qs0e qs0f qs1 qs1b qs1e qs1f qs2 qs2b qs2e qs2f qs3 qs3b qs3e qs3f qs4 qs4b qs4e qs4f qs5 qs5b qs5e qs5f qro qrg qxo qxc qxt db de df dc dp dk so sn sb se sf sc sp sk ro rg ho hc ht) sz) (fun (u : (Nat → Int32) × (Nat → Int32) × (Nat → Int32) × (Nat → Int32) × (Nat → Int32)) => (w0_X5_mixWhole G qm qd qs qn qk qt qr qx qdb qde qdf qsa qs0 qs0b qs0e qs0f qs1 qs1b qs1e qs1f qs2 qs2b qs2e qs2f qs3 qs3b qs3e qs3f qs4 qs4b qs4e qs4f qs5 qs5b qs5e qs5f qro qrg qxo qxc qxt db de df dc dp dk so sn sb se sf sc sp sk u.1 u.2.1 u.2.2.1 u.2.2.2.1 u.2.2.2.2))) (va_A (w0_X5_mixWhole G qm qd qs qn qk qt qr qx qdb qde qdf qsa qs0 qs0b qs0e qs0f qs1 qs1b qs1e qs1f qs2 qs2b qs2e qs2f qs3 qs3b qs3e qs3f qs4 qs4b qs4e qs4f qs5 qs5b qs5e qs5f qro qrg qxo qxc qxt db de df dc dp dk so sn sb se sf sc sp sk ro rg ho hc ht) sz)) 0 0 (va_A (w0_X5_mixWhole G qm qd qs qn qk qt qr qx qdb qde qdf qsa qs0 qs0b qs0e qs0f qs1 qs1b qs1e qs1f qs2 qs2b qs2e qs2f qs3 qs3b qs3e qs3f qs4 qs4b qs4e qs4f qs5 qs5b qs5e qs5f qro qrg qxo qxc qxt db de df dc dp dk so sn sb se sf sc sp sk ro rg ho hc ht) sz) := by
  refine ms_l (cc := cX5_mixWhole) (maxL := 5) (ret := some .long) (post := (fun (r : Int64) (u : (Nat → Int32) × (Nat → Int32) × (Nat → Int32) × (Nat → Int32) × (Nat → Int32)) => Q r u.1 u.2.1 u.2.2.1 u.2.2.2.1 u.2.2.2.2)) (w1 := (fun (u : (Nat → Int32) × (Nat → Int32) × (Nat → Int32) × (Nat → Int32) × (Nat → Int32)) => (w0_X5_mixWhole G qm qd qs qn qk qt qr qx qdb qde qdf qsa qs0 qs0b qs0e qs0f qs1 qs1b qs1e qs1f qs2 qs2b qs2e qs2f qs3 qs3b qs3e qs3f qs4 qs4b qs4e qs4f qs5 qs5b qs5e qs5f qro qrg qxo qxc qxt db de df dc dp dk so sn sb se sf sc sp sk u.1 u.2.1 u.2.2.1 u.2.2.2.1 u.2.2.2.2))) (by decide) rfl (Nat.le_of_ble_eq_true rfl) ?_ sz
  intro p e s m below meth c A ls H locs hx hb hr hml hown hts hlocks hK hG hP hD hS hA hl
  have hown : s.vm.findClass RX5 = some m.cls := hown
  have hl : lv_has ls 5 [(0, .ref qm), (1, .long a1)] := hl
  unfold wn_X5_mixWhole at hw
  refine lv_lload_n hx hb dX5_mixWhole_0 rfl (lv_at hl 1 rfl) ?_
  refine lv_aload_n hx hb dX5_mixWhole_1 rfl (lv_at hl 0 rfl) ?_
  refine kcR_i (kr_V [.long a1] ⟨hx, hb, hml, hown, hts⟩ (cn_X5_pause l G qm qd qs qn qk qt qr qx qdb qde qdf db de df dc dp dk hw H.size) (cwV 0 hts gX5_mixWhole_X5_pause rfl rfl rfl (by decide +kernel) ⟨Nat.le_of_ble_eq_true rfl, Nat.le_of_ble_eq_true rfl⟩) hK hG hP hD hS hA [0, 1, 2, 3, 4] rfl rfl 5 0 rfl rfl rfl hl.1 rfl (Nat.le_of_ble_eq_true rfl) dX5_mixWhole_2 ⟨Nat.le_of_ble_eq_true rfl, Nat.le_of_ble_eq_true rfl⟩) hP hD hS hA [0, 1, 2, 3, 4] rfl (fun r1 u H locs hw hP hS => ?_)
  try dsimp only at hw
  refine lv_i2l hx hb dX5_mixWhole_5 rfl ?_
  refine kcR_l (kr_S [] ⟨hx, hb, hml, hown, hts⟩ (cn_X5_mix l G a1 r1.toInt64 hw H.size) (va_cwS 2 hts gX5_mixWhole_X5_mix rfl rfl rfl (by decide +kernel) ⟨Nat.le_of_ble_eq_true rfl, Nat.le_of_ble_eq_true rfl⟩) hK hG hP hD hS hA [] rfl rfl rfl hl.1 rfl (Nat.le_of_ble_eq_true rfl) dX5_mixWhole_6 ⟨Nat.le_of_ble_eq_true rfl, Nat.le_of_ble_eq_true rfl⟩) hP hD hS hA [] rfl (fun r2 u H locs hw hP hS => ?_)
  try dsimp only at hw
  refine lv_lstore_n (lv' := [(3, .long r2), (0, .ref qm), (1, .long a1)]) hx hb dX5_mixWhole_9 rfl hl (by decide) rfl (fun ls hl => ?_)
  refine lv_lload_n hx hb dX5_mixWhole_10 rfl (lv_at hl 0 rfl) ?_
  refine lv_aload_n hx hb dX5_mixWhole_11 rfl (lv_at hl 1 rfl) ?_
  refine kcR_i (kr_V [.long r2] ⟨hx, hb, hml, hown, hts⟩ (cn_X5_booked l G qm qd qs qn qk qt qr qx qdb qde qdf db de df dc dp dk hw H.size) (cwV 0 hts gX5_mixWhole_X5_booked rfl rfl rfl (by decide +kernel) ⟨Nat.le_of_ble_eq_true rfl, Nat.le_of_ble_eq_true rfl⟩) hK hG hP hD hS hA [0, 1, 2, 3, 4] rfl rfl 5 0 rfl rfl rfl hl.1 rfl (Nat.le_of_ble_eq_true rfl) dX5_mixWhole_12 ⟨Nat.le_of_ble_eq_true rfl, Nat.le_of_ble_eq_true rfl⟩) hP hD hS hA [0, 1, 2, 3, 4] rfl (fun r3 u H locs hw hP hS => ?_)
  try dsimp only at hw
  refine lv_i2l hx hb dX5_mixWhole_15 rfl ?_
  refine kcR_l (kr_S [] ⟨hx, hb, hml, hown, hts⟩ (cn_X5_mix l G r2 r3.toInt64 hw H.size) (va_cwS 2 hts gX5_mixWhole_X5_mix rfl rfl rfl (by decide +kernel) ⟨Nat.le_of_ble_eq_true rfl, Nat.le_of_ble_eq_true rfl⟩) hK hG hP hD hS hA [] rfl rfl rfl hl.1 rfl (Nat.le_of_ble_eq_true rfl) dX5_mixWhole_16 ⟨Nat.le_of_ble_eq_true rfl, Nat.le_of_ble_eq_true rfl⟩) hP hD hS hA [] rfl (fun r4 u H locs hw hP hS => ?_)
  try dsimp only at hw
  refine lv_lstore_n (lv' := [(3, .long r4), (0, .ref qm), (1, .long a1)]) hx hb dX5_mixWhole_19 rfl hl (by decide) rfl (fun ls hl => ?_)
  refine lv_lload_n hx hb dX5_mixWhole_20 rfl (lv_at hl 0 rfl) ?_
  refine lv_aload_n hx hb dX5_mixWhole_21 rfl (lv_at hl 1 rfl) ?_
  refine kcR_i (kr_V [.long r4] ⟨hx, hb, hml, hown, hts⟩ (cn_X5_bookedFame l G qm qd qs qn qk qt qr qx qdb qde qdf db de df dc dp dk hw H.size) (cwV 0 hts gX5_mixWhole_X5_bookedFame rfl rfl rfl (by decide +kernel) ⟨Nat.le_of_ble_eq_true rfl, Nat.le_of_ble_eq_true rfl⟩) hK hG hP hD hS hA [0, 1, 2, 3, 4] rfl rfl 5 0 rfl rfl rfl hl.1 rfl (Nat.le_of_ble_eq_true rfl) dX5_mixWhole_22 ⟨Nat.le_of_ble_eq_true rfl, Nat.le_of_ble_eq_true rfl⟩) hP hD hS hA [0, 1, 2, 3, 4] rfl (fun r5 u H locs hw hP hS => ?_)
  try dsimp only at hw
  refine lv_i2l hx hb dX5_mixWhole_25 rfl ?_
  refine kcR_l (kr_S [] ⟨hx, hb, hml, hown, hts⟩ (cn_X5_mix l G r4 r5.toInt64 hw H.size) (va_cwS 2 hts gX5_mixWhole_X5_mix rfl rfl rfl (by decide +kernel) ⟨Nat.le_of_ble_eq_true rfl, Nat.le_of_ble_eq_true rfl⟩) hK hG hP hD hS hA [] rfl rfl rfl hl.1 rfl (Nat.le_of_ble_eq_true rfl) dX5_mixWhole_26 ⟨Nat.le_of_ble_eq_true rfl, Nat.le_of_ble_eq_true rfl⟩) hP hD hS hA [] rfl (fun r6 u H locs hw hP hS => ?_)
  try dsimp only at hw
  refine lv_lstore_n (lv' := [(3, .long r6), (0, .ref qm), (1, .long a1)]) hx hb dX5_mixWhole_29 rfl hl (by decide) rfl (fun ls hl => ?_)
  refine lv_lload_n hx hb dX5_mixWhole_30 rfl (lv_at hl 0 rfl) ?_
  refine lv_aload_n hx hb dX5_mixWhole_31 rfl (lv_at hl 1 rfl) ?_
  refine kcR_i (kr_V [.long r6] ⟨hx, hb, hml, hown, hts⟩ (cn_X5_conflictsByPairs l G qm qd qs qn qk qt qr qx qdb qde qdf db de df dc dp dk hw H.size) (cwV 0 hts gX5_mixWhole_X5_conflictsByPairs rfl rfl rfl (by decide +kernel) ⟨Nat.le_of_ble_eq_true rfl, Nat.le_of_ble_eq_true rfl⟩) hK hG hP hD hS hA [0, 1, 2, 3, 4] rfl rfl 5 0 rfl rfl rfl hl.1 rfl (Nat.le_of_ble_eq_true rfl) dX5_mixWhole_32 ⟨Nat.le_of_ble_eq_true rfl, Nat.le_of_ble_eq_true rfl⟩) hP hD hS hA [0, 1, 2, 3, 4] rfl (fun r7 u H locs hw hP hS => ?_)
  try dsimp only at hw
  refine lv_i2l hx hb dX5_mixWhole_35 rfl ?_
  refine kcR_l (kr_S [] ⟨hx, hb, hml, hown, hts⟩ (cn_X5_mix l G r6 r7.toInt64 hw H.size) (va_cwS 2 hts gX5_mixWhole_X5_mix rfl rfl rfl (by decide +kernel) ⟨Nat.le_of_ble_eq_true rfl, Nat.le_of_ble_eq_true rfl⟩) hK hG hP hD hS hA [] rfl rfl rfl hl.1 rfl (Nat.le_of_ble_eq_true rfl) dX5_mixWhole_36 ⟨Nat.le_of_ble_eq_true rfl, Nat.le_of_ble_eq_true rfl⟩) hP hD hS hA [] rfl (fun r8 u H locs hw hP hS => ?_)
  try dsimp only at hw
  refine lv_lstore_n (lv' := [(3, .long r8), (0, .ref qm), (1, .long a1)]) hx hb dX5_mixWhole_39 rfl hl (by decide) rfl (fun ls hl => ?_)
  refine lv_lload_n hx hb dX5_mixWhole_40 rfl (lv_at hl 0 rfl) ?_
  refine lv_aload_n hx hb dX5_mixWhole_41 rfl (lv_at hl 1 rfl) ?_
  refine kcR_i (kr_V [.long r8] ⟨hx, hb, hml, hown, hts⟩ (cn_X5_conflictsBySweep l G qm qd qs qn qk qt qr qx qdb qde qdf qro qrg db de df dc dp dk ro rg hw H.size) (cwV 0 hts gX5_mixWhole_X5_conflictsBySweep rfl rfl rfl (by decide +kernel) ⟨Nat.le_of_ble_eq_true rfl, Nat.le_of_ble_eq_true rfl⟩) hK hG hP hD hS hA [0, 1, 2, 3, 4, 31, 32, 33] rfl rfl 5 0 rfl rfl rfl hl.1 rfl (Nat.le_of_ble_eq_true rfl) dX5_mixWhole_42 ⟨Nat.le_of_ble_eq_true rfl, Nat.le_of_ble_eq_true rfl⟩) hP hD hS hA [0, 1, 2, 3, 4, 31, 32, 33] rfl (fun r9 u H locs hw hP hS => ?_)
  try dsimp only at hw
  refine lv_i2l hx hb dX5_mixWhole_45 rfl ?_
  refine kcR_l (kr_S [] ⟨hx, hb, hml, hown, hts⟩ (cn_X5_mix l G r8 r9.toInt64 hw H.size) (va_cwS 2 hts gX5_mixWhole_X5_mix rfl rfl rfl (by decide +kernel) ⟨Nat.le_of_ble_eq_true rfl, Nat.le_of_ble_eq_true rfl⟩) hK hG hP hD hS hA [] rfl rfl rfl hl.1 rfl (Nat.le_of_ble_eq_true rfl) dX5_mixWhole_46 ⟨Nat.le_of_ble_eq_true rfl, Nat.le_of_ble_eq_true rfl⟩) hP hD hS hA [] rfl (fun r10 u H locs hw hP hS => ?_)
  try dsimp only at hw
  refine lv_lstore_n (lv' := [(3, .long r10), (0, .ref qm), (1, .long a1)]) hx hb dX5_mixWhole_49 rfl hl (by decide) rfl (fun ls hl => ?_)
  refine lv_lload_n hx hb dX5_mixWhole_50 rfl (lv_at hl 0 rfl) ?_
  refine lv_aload_n hx hb dX5_mixWhole_51 rfl (lv_at hl 1 rfl) ?_
  refine kcR_i (kr_V [.long r10] ⟨hx, hb, hml, hown, hts⟩ (cn_X5_roomsBySweep l G qm qd qs qn qk qt qr qx qdb qde qdf qro qrg db de df dc dp dk ro rg hw H.size) (cwV 0 hts gX5_mixWhole_X5_roomsBySweep rfl rfl rfl (by decide +kernel) ⟨Nat.le_of_ble_eq_true rfl, Nat.le_of_ble_eq_true rfl⟩) hK hG hP hD hS hA [0, 1, 2, 3, 4, 31, 32, 33] rfl rfl 5 0 rfl rfl rfl hl.1 rfl (Nat.le_of_ble_eq_true rfl) dX5_mixWhole_52 ⟨Nat.le_of_ble_eq_true rfl, Nat.le_of_ble_eq_true rfl⟩) hP hD hS hA [0, 1, 2, 3, 4, 31, 32, 33] rfl (fun r11 u H locs hw hP hS => ?_)
  try dsimp only at hw
  refine lv_i2l hx hb dX5_mixWhole_55 rfl ?_
  refine kcR_l (kr_S [] ⟨hx, hb, hml, hown, hts⟩ (cn_X5_mix l G r10 r11.toInt64 hw H.size) (va_cwS 2 hts gX5_mixWhole_X5_mix rfl rfl rfl (by decide +kernel) ⟨Nat.le_of_ble_eq_true rfl, Nat.le_of_ble_eq_true rfl⟩) hK hG hP hD hS hA [] rfl rfl rfl hl.1 rfl (Nat.le_of_ble_eq_true rfl) dX5_mixWhole_56 ⟨Nat.le_of_ble_eq_true rfl, Nat.le_of_ble_eq_true rfl⟩) hP hD hS hA [] rfl (fun r12 u H locs hw hP hS => ?_)
  try dsimp only at hw
  refine lv_lstore_n (lv' := [(3, .long r12), (0, .ref qm), (1, .long a1)]) hx hb dX5_mixWhole_59 rfl hl (by decide) rfl (fun ls hl => ?_)
  refine lv_lload_n hx hb dX5_mixWhole_60 rfl (lv_at hl 0 rfl) ?_
  refine lv_aload_n hx hb dX5_mixWhole_61 rfl (lv_at hl 1 rfl) ?_
  refine kc_i (kr_V [.long r12] ⟨hx, hb, hml, hown, hts⟩ (cn_X5_roomsByGiving l G qm qd qs qn qk qt qr qx qdb qde qdf qro qrg db de df dc dp dk ro rg hw H.size) (cwV 0 hts gX5_mixWhole_X5_roomsByGiving rfl rfl rfl (by decide +kernel) ⟨Nat.le_of_ble_eq_true rfl, Nat.le_of_ble_eq_true rfl⟩) hK hG hP hD hS hA [0, 1, 2, 3, 4, 31, 32, 33] rfl rfl 5 0 rfl rfl rfl hl.1 rfl (Nat.le_of_ble_eq_true rfl) dX5_mixWhole_62 ⟨Nat.le_of_ble_eq_true rfl, Nat.le_of_ble_eq_true rfl⟩) hP hD hS hA [0, 1, 2, 3, 4, 31, 32, 33] [5, 6, 7, 8, 9, 10, 11, 12, 13, 14, 15, 16, 17, 18, 19, 20, 21, 22, 23, 24, 25, 26, 27, 28, 29, 30, 34, 35, 36, 37] rfl rfl rfl (by decide) (fun r13 u H locs hw hP hD hS => ?_)
  obtain ⟨ro_14, rg_15⟩ := u
  try dsimp only at hw
  have hP := hP.sub (ws' := (w0_X5_mixWhole G qm qd qs qn qk qt qr qx qdb qde qdf qsa qs0 qs0b qs0e qs0f qs1 qs1b qs1e qs1f qs2 qs2b qs2e qs2f qs3 qs3b qs3e qs3f qs4 qs4b qs4e qs4f qs5 qs5b qs5e qs5f qro qrg qxo qxc qxt db de df dc dp dk so sn sb se sf sc sp sk ro_14 rg_15 ho hc ht)) [30, 31, 32, 33, 34, 0, 1, 2, 3, 4, 5, 6, 7, 8, 9, 10, 11, 12, 13, 14, 15, 16, 17, 18, 19, 20, 21, 22, 23, 24, 25, 35, 36, 37, 26, 27, 28, 29] rfl
  have hD := hD.sub (ws' := (w0_X5_mixWhole G qm qd qs qn qk qt qr qx qdb qde qdf qsa qs0 qs0b qs0e qs0f qs1 qs1b qs1e qs1f qs2 qs2b qs2e qs2f qs3 qs3b qs3e qs3f qs4 qs4b qs4e qs4f qs5 qs5b qs5e qs5f qro qrg qxo qxc qxt db de df dc dp dk so sn sb se sf sc sp sk ro_14 rg_15 ho hc ht)) [30, 31, 32, 33, 34, 0, 1, 2, 3, 4, 5, 6, 7, 8, 9, 10, 11, 12, 13, 14, 15, 16, 17, 18, 19, 20, 21, 22, 23, 24, 25, 35, 36, 37, 26, 27, 28, 29] rfl rfl
  refine lv_i2l hx hb dX5_mixWhole_65 rfl ?_
  refine kcR_l (kr_S [] ⟨hx, hb, hml, hown, hts⟩ (cn_X5_mix l G r12 r13.toInt64 hw H.size) (va_cwS 2 hts gX5_mixWhole_X5_mix rfl rfl rfl (by decide +kernel) ⟨Nat.le_of_ble_eq_true rfl, Nat.le_of_ble_eq_true rfl⟩) hK hG hP hD hS hA [] rfl rfl rfl hl.1 rfl (Nat.le_of_ble_eq_true rfl) dX5_mixWhole_66 ⟨Nat.le_of_ble_eq_true rfl, Nat.le_of_ble_eq_true rfl⟩) hP hD hS hA [] rfl (fun r16 u H locs hw hP hS => ?_)
  try dsimp only at hw
  refine lv_lstore_n (lv' := [(3, .long r16), (0, .ref qm), (1, .long a1)]) hx hb dX5_mixWhole_69 rfl hl (by decide) rfl (fun ls hl => ?_)
  refine lv_lload_n hx hb dX5_mixWhole_70 rfl (lv_at hl 0 rfl) ?_
  refine lv_aload_n hx hb dX5_mixWhole_71 rfl (lv_at hl 1 rfl) ?_
  refine kc_i (kr_V [.long r16] ⟨hx, hb, hml, hown, hts⟩ (cn_X5_bestByTrying l G qm qd qs qn qk qt qr qx qdb qde qdf qxo qxc qxt db de df dc dp dk ho hc ht hw H.size) (cwV 0 hts gX5_mixWhole_X5_bestByTrying rfl rfl rfl (by decide +kernel) ⟨Nat.le_of_ble_eq_true rfl, Nat.le_of_ble_eq_true rfl⟩) hK hG hP hD hS hA [0, 1, 2, 3, 4, 34, 35, 36, 37] rfl rfl 5 0 rfl rfl rfl hl.1 rfl (Nat.le_of_ble_eq_true rfl) dX5_mixWhole_72 ⟨Nat.le_of_ble_eq_true rfl, Nat.le_of_ble_eq_true rfl⟩) hP hD hS hA [0, 1, 2, 3, 4, 34, 35, 36, 37] [5, 6, 7, 8, 9, 10, 11, 12, 13, 14, 15, 16, 17, 18, 19, 20, 21, 22, 23, 24, 25, 26, 27, 28, 29, 30, 31, 32, 33] rfl rfl rfl (by decide) (fun r17 u H locs hw hP hD hS => ?_)
  obtain ⟨hc_18, rfl⟩ : ∃ z, z = u := ⟨_, rfl⟩
  try dsimp only at hw
  have hP := hP.sub (ws' := (w0_X5_mixWhole G qm qd qs qn qk qt qr qx qdb qde qdf qsa qs0 qs0b qs0e qs0f qs1 qs1b qs1e qs1f qs2 qs2b qs2e qs2f qs3 qs3b qs3e qs3f qs4 qs4b qs4e qs4f qs5 qs5b qs5e qs5f qro qrg qxo qxc qxt db de df dc dp dk so sn sb se sf sc sp sk ro_14 rg_15 ho hc_18 ht)) [29, 30, 31, 32, 33, 0, 1, 2, 3, 4, 5, 6, 7, 8, 9, 10, 11, 12, 13, 14, 15, 16, 17, 18, 19, 20, 21, 22, 23, 24, 25, 26, 27, 28, 34, 35, 36, 37] rfl
  have hD := hD.sub (ws' := (w0_X5_mixWhole G qm qd qs qn qk qt qr qx qdb qde qdf qsa qs0 qs0b qs0e qs0f qs1 qs1b qs1e qs1f qs2 qs2b qs2e qs2f qs3 qs3b qs3e qs3f qs4 qs4b qs4e qs4f qs5 qs5b qs5e qs5f qro qrg qxo qxc qxt db de df dc dp dk so sn sb se sf sc sp sk ro_14 rg_15 ho hc_18 ht)) [29, 30, 31, 32, 33, 0, 1, 2, 3, 4, 5, 6, 7, 8, 9, 10, 11, 12, 13, 14, 15, 16, 17, 18, 19, 20, 21, 22, 23, 24, 25, 26, 27, 28, 34, 35, 36, 37] rfl rfl
  refine lv_i2l hx hb dX5_mixWhole_75 rfl ?_
  refine kcR_l (kr_S [] ⟨hx, hb, hml, hown, hts⟩ (cn_X5_mix l G r16 r17.toInt64 hw H.size) (va_cwS 2 hts gX5_mixWhole_X5_mix rfl rfl rfl (by decide +kernel) ⟨Nat.le_of_ble_eq_true rfl, Nat.le_of_ble_eq_true rfl⟩) hK hG hP hD hS hA [] rfl rfl rfl hl.1 rfl (Nat.le_of_ble_eq_true rfl) dX5_mixWhole_76 ⟨Nat.le_of_ble_eq_true rfl, Nat.le_of_ble_eq_true rfl⟩) hP hD hS hA [] rfl (fun r19 u H locs hw hP hS => ?_)
  try dsimp only at hw
  refine lv_lstore_n (lv' := [(3, .long r19), (0, .ref qm), (1, .long a1)]) hx hb dX5_mixWhole_79 rfl hl (by decide) rfl (fun ls hl => ?_)
  refine lv_lload_n hx hb dX5_mixWhole_80 rfl (lv_at hl 0 rfl) ?_
  refine lv_aload_n hx hb dX5_mixWhole_81 rfl (lv_at hl 1 rfl) ?_
  refine kc_i (kr_V [.long r19] ⟨hx, hb, hml, hown, hts⟩ (cn_X5_bestByTable l G qm qd qs qn qk qt qr qx qdb qde qdf qxo qxc qxt db de df dc dp dk ho hc_18 ht hw H.size) (cwV 0 hts gX5_mixWhole_X5_bestByTable rfl rfl rfl (by decide +kernel) ⟨Nat.le_of_ble_eq_true rfl, Nat.le_of_ble_eq_true rfl⟩) hK hG hP hD hS hA [0, 1, 2, 3, 4, 34, 35, 36, 37] rfl rfl 5 0 rfl rfl rfl hl.1 rfl (Nat.le_of_ble_eq_true rfl) dX5_mixWhole_82 ⟨Nat.le_of_ble_eq_true rfl, Nat.le_of_ble_eq_true rfl⟩) hP hD hS hA [0, 1, 2, 3, 4, 34, 35, 36, 37] [5, 6, 7, 8, 9, 10, 11, 12, 13, 14, 15, 16, 17, 18, 19, 20, 21, 22, 23, 24, 25, 26, 27, 28, 29, 30, 31, 32, 33] rfl rfl rfl (by decide) (fun r20 u H locs hw hP hD hS => ?_)
  obtain ⟨ho_21, ht_22⟩ := u
  try dsimp only at hw
  have hP := hP.sub (ws' := (w0_X5_mixWhole G qm qd qs qn qk qt qr qx qdb qde qdf qsa qs0 qs0b qs0e qs0f qs1 qs1b qs1e qs1f qs2 qs2b qs2e qs2f qs3 qs3b qs3e qs3f qs4 qs4b qs4e qs4f qs5 qs5b qs5e qs5f qro qrg qxo qxc qxt db de df dc dp dk so sn sb se sf sc sp sk ro_14 rg_15 ho_21 hc_18 ht_22)) [29, 30, 31, 32, 33, 0, 1, 2, 3, 4, 5, 6, 7, 8, 9, 10, 11, 12, 13, 14, 15, 16, 17, 18, 19, 20, 21, 22, 23, 24, 25, 26, 27, 28, 34, 35, 36, 37] rfl
  have hD := hD.sub (ws' := (w0_X5_mixWhole G qm qd qs qn qk qt qr qx qdb qde qdf qsa qs0 qs0b qs0e qs0f qs1 qs1b qs1e qs1f qs2 qs2b qs2e qs2f qs3 qs3b qs3e qs3f qs4 qs4b qs4e qs4f qs5 qs5b qs5e qs5f qro qrg qxo qxc qxt db de df dc dp dk so sn sb se sf sc sp sk ro_14 rg_15 ho_21 hc_18 ht_22)) [29, 30, 31, 32, 33, 0, 1, 2, 3, 4, 5, 6, 7, 8, 9, 10, 11, 12, 13, 14, 15, 16, 17, 18, 19, 20, 21, 22, 23, 24, 25, 26, 27, 28, 34, 35, 36, 37] rfl rfl
  refine lv_i2l hx hb dX5_mixWhole_85 rfl ?_
  refine kcR_l (kr_S [] ⟨hx, hb, hml, hown, hts⟩ (cn_X5_mix l G r19 r20.toInt64 hw H.size) (va_cwS 2 hts gX5_mixWhole_X5_mix rfl rfl rfl (by decide +kernel) ⟨Nat.le_of_ble_eq_true rfl, Nat.le_of_ble_eq_true rfl⟩) hK hG hP hD hS hA [] rfl rfl rfl hl.1 rfl (Nat.le_of_ble_eq_true rfl) dX5_mixWhole_86 ⟨Nat.le_of_ble_eq_true rfl, Nat.le_of_ble_eq_true rfl⟩) hP hD hS hA [] rfl (fun r23 u H locs hw hP hS => ?_)
  try dsimp only at hw
  refine lv_lstore_n (lv' := [(3, .long r23), (0, .ref qm), (1, .long a1)]) hx hb dX5_mixWhole_89 rfl hl (by decide) rfl (fun ls hl => ?_)
  refine lv_lload_n hx hb dX5_mixWhole_90 rfl (lv_at hl 0 rfl) ?_
  refine lv_aload_n hx hb dX5_mixWhole_91 rfl (lv_at hl 1 rfl) ?_
  refine kc_i (kr_V [.long r23] ⟨hx, hb, hml, hown, hts⟩ (cn_X5_bestChoice l G qm qd qs qn qk qt qr qx qdb qde qdf qxo qxc qxt db de df dc dp dk ho_21 hc_18 ht_22 hw H.size) (cwV 0 hts gX5_mixWhole_X5_bestChoice rfl rfl rfl (by decide +kernel) ⟨Nat.le_of_ble_eq_true rfl, Nat.le_of_ble_eq_true rfl⟩) hK hG hP hD hS hA [0, 1, 2, 3, 4, 34, 35, 36, 37] rfl rfl 5 0 rfl rfl rfl hl.1 rfl (Nat.le_of_ble_eq_true rfl) dX5_mixWhole_92 ⟨Nat.le_of_ble_eq_true rfl, Nat.le_of_ble_eq_true rfl⟩) hP hD hS hA [0, 1, 2, 3, 4, 34, 35, 36, 37] [5, 6, 7, 8, 9, 10, 11, 12, 13, 14, 15, 16, 17, 18, 19, 20, 21, 22, 23, 24, 25, 26, 27, 28, 29, 30, 31, 32, 33] rfl rfl rfl (by decide) (fun r24 u H locs hw hP hD hS => ?_)
  obtain ⟨ho_25, ht_26⟩ := u
  try dsimp only at hw
  have hP := hP.sub (ws' := (w0_X5_mixWhole G qm qd qs qn qk qt qr qx qdb qde qdf qsa qs0 qs0b qs0e qs0f qs1 qs1b qs1e qs1f qs2 qs2b qs2e qs2f qs3 qs3b qs3e qs3f qs4 qs4b qs4e qs4f qs5 qs5b qs5e qs5f qro qrg qxo qxc qxt db de df dc dp dk so sn sb se sf sc sp sk ro_14 rg_15 ho_25 hc_18 ht_26)) [29, 30, 31, 32, 33, 0, 1, 2, 3, 4, 5, 6, 7, 8, 9, 10, 11, 12, 13, 14, 15, 16, 17, 18, 19, 20, 21, 22, 23, 24, 25, 26, 27, 28, 34, 35, 36, 37] rfl
  have hD := hD.sub (ws' := (w0_X5_mixWhole G qm qd qs qn qk qt qr qx qdb qde qdf qsa qs0 qs0b qs0e qs0f qs1 qs1b qs1e qs1f qs2 qs2b qs2e qs2f qs3 qs3b qs3e qs3f qs4 qs4b qs4e qs4f qs5 qs5b qs5e qs5f qro qrg qxo qxc qxt db de df dc dp dk so sn sb se sf sc sp sk ro_14 rg_15 ho_25 hc_18 ht_26)) [29, 30, 31, 32, 33, 0, 1, 2, 3, 4, 5, 6, 7, 8, 9, 10, 11, 12, 13, 14, 15, 16, 17, 18, 19, 20, 21, 22, 23, 24, 25, 26, 27, 28, 34, 35, 36, 37] rfl rfl
  refine lv_i2l hx hb dX5_mixWhole_95 rfl ?_
  refine kcR_l (kr_S [] ⟨hx, hb, hml, hown, hts⟩ (cn_X5_mix l G r23 r24.toInt64 hw H.size) (va_cwS 2 hts gX5_mixWhole_X5_mix rfl rfl rfl (by decide +kernel) ⟨Nat.le_of_ble_eq_true rfl, Nat.le_of_ble_eq_true rfl⟩) hK hG hP hD hS hA [] rfl rfl rfl hl.1 rfl (Nat.le_of_ble_eq_true rfl) dX5_mixWhole_96 ⟨Nat.le_of_ble_eq_true rfl, Nat.le_of_ble_eq_true rfl⟩) hP hD hS hA [] rfl (fun r27 u H locs hw hP hS => ?_)
  try dsimp only at hw
  refine lv_lstore_n (lv' := [(3, .long r27), (0, .ref qm), (1, .long a1)]) hx hb dX5_mixWhole_99 rfl hl (by decide) rfl (fun ls hl => ?_)
  refine lv_lload_n hx hb dX5_mixWhole_100 rfl (lv_at hl 0 rfl) ?_
  refine lv_aload_n hx hb dX5_mixWhole_101 rfl (lv_at hl 1 rfl) ?_
  refine kc_i (kr_V [.long r27] ⟨hx, hb, hml, hown, hts⟩ (cn_X5_mostRehearsals l G qm qd qs qn qk qt qr qx qdb qde qdf qxo qxc qxt db de df dc dp dk ho_25 hc_18 ht_26 hw H.size) (cwV 0 hts gX5_mixWhole_X5_mostRehearsals rfl rfl rfl (by decide +kernel) ⟨Nat.le_of_ble_eq_true rfl, Nat.le_of_ble_eq_true rfl⟩) hK hG hP hD hS hA [0, 1, 2, 3, 4, 34, 35, 36, 37] rfl rfl 5 0 rfl rfl rfl hl.1 rfl (Nat.le_of_ble_eq_true rfl) dX5_mixWhole_102 ⟨Nat.le_of_ble_eq_true rfl, Nat.le_of_ble_eq_true rfl⟩) hP hD hS hA [0, 1, 2, 3, 4, 34, 35, 36, 37] [5, 6, 7, 8, 9, 10, 11, 12, 13, 14, 15, 16, 17, 18, 19, 20, 21, 22, 23, 24, 25, 26, 27, 28, 29, 30, 31, 32, 33] rfl rfl rfl (by decide) (fun r28 u H locs hw hP hD hS => ?_)
  obtain ⟨ho_29, rfl⟩ : ∃ z, z = u := ⟨_, rfl⟩
  try dsimp only at hw
  have hP := hP.sub (ws' := (w0_X5_mixWhole G qm qd qs qn qk qt qr qx qdb qde qdf qsa qs0 qs0b qs0e qs0f qs1 qs1b qs1e qs1f qs2 qs2b qs2e qs2f qs3 qs3b qs3e qs3f qs4 qs4b qs4e qs4f qs5 qs5b qs5e qs5f qro qrg qxo qxc qxt db de df dc dp dk so sn sb se sf sc sp sk ro_14 rg_15 ho_29 hc_18 ht_26)) [29, 30, 31, 32, 33, 0, 1, 2, 3, 4, 5, 6, 7, 8, 9, 10, 11, 12, 13, 14, 15, 16, 17, 18, 19, 20, 21, 22, 23, 24, 25, 26, 27, 28, 34, 35, 36, 37] rfl
  have hD := hD.sub (ws' := (w0_X5_mixWhole G qm qd qs qn qk qt qr qx qdb qde qdf qsa qs0 qs0b qs0e qs0f qs1 qs1b qs1e qs1f qs2 qs2b qs2e qs2f qs3 qs3b qs3e qs3f qs4 qs4b qs4e qs4f qs5 qs5b qs5e qs5f qro qrg qxo qxc qxt db de df dc dp dk so sn sb se sf sc sp sk ro_14 rg_15 ho_29 hc_18 ht_26)) [29, 30, 31, 32, 33, 0, 1, 2, 3, 4, 5, 6, 7, 8, 9, 10, 11, 12, 13, 14, 15, 16, 17, 18, 19, 20, 21, 22, 23, 24, 25, 26, 27, 28, 34, 35, 36, 37] rfl rfl
  refine lv_i2l hx hb dX5_mixWhole_105 rfl ?_
  refine kcR_l (kr_S [] ⟨hx, hb, hml, hown, hts⟩ (cn_X5_mix l G r27 r28.toInt64 hw H.size) (va_cwS 2 hts gX5_mixWhole_X5_mix rfl rfl rfl (by decide +kernel) ⟨Nat.le_of_ble_eq_true rfl, Nat.le_of_ble_eq_true rfl⟩) hK hG hP hD hS hA [] rfl rfl rfl hl.1 rfl (Nat.le_of_ble_eq_true rfl) dX5_mixWhole_106 ⟨Nat.le_of_ble_eq_true rfl, Nat.le_of_ble_eq_true rfl⟩) hP hD hS hA [] rfl (fun r30 u H locs hw hP hS => ?_)
  try dsimp only at hw
  refine lv_lstore_n (lv' := [(3, .long r30), (0, .ref qm), (1, .long a1)]) hx hb dX5_mixWhole_109 rfl hl (by decide) rfl (fun ls hl => ?_)
  refine lv_lload_n hx hb dX5_mixWhole_110 rfl (lv_at hl 0 rfl) ?_
  refine lv_aload_n hx hb dX5_mixWhole_111 rfl (lv_at hl 1 rfl) ?_
  refine kcR_i (kr_V [.long r30] ⟨hx, hb, hml, hown, hts⟩ (cn_X5_savedStates l G qm qd qs qn qk qt qr qx qsa qs0 qs0b qs0e qs0f qs1 qs1b qs1e qs1f qs2 qs2b qs2e qs2f qs3 qs3b qs3e qs3f qs4 qs4b qs4e qs4f qs5 qs5b qs5e qs5f so sn sb se sf sc sp sk hw H.size) (cwV 0 hts gX5_mixWhole_X5_savedStates rfl rfl rfl (by decide +kernel) ⟨Nat.le_of_ble_eq_true rfl, Nat.le_of_ble_eq_true rfl⟩) hK hG hP hD hS hA [0, 5, 6, 7, 8, 9, 10, 11, 12, 13, 14, 15, 16, 17, 18, 19, 20, 21, 22, 23, 24, 25, 26, 27, 28, 29, 30] rfl rfl 5 0 rfl rfl rfl hl.1 rfl (Nat.le_of_ble_eq_true rfl) dX5_mixWhole_112 ⟨Nat.le_of_ble_eq_true rfl, Nat.le_of_ble_eq_true rfl⟩) hP hD hS hA [0, 5, 6, 7, 8, 9, 10, 11, 12, 13, 14, 15, 16, 17, 18, 19, 20, 21, 22, 23, 24, 25, 26, 27, 28, 29, 30] rfl (fun r31 u H locs hw hP hS => ?_)
  try dsimp only at hw
  refine lv_i2l hx hb dX5_mixWhole_115 rfl ?_
  refine kcR_l (kr_S [] ⟨hx, hb, hml, hown, hts⟩ (cn_X5_mix l G r30 r31.toInt64 hw H.size) (va_cwS 2 hts gX5_mixWhole_X5_mix rfl rfl rfl (by decide +kernel) ⟨Nat.le_of_ble_eq_true rfl, Nat.le_of_ble_eq_true rfl⟩) hK hG hP hD hS hA [] rfl rfl rfl hl.1 rfl (Nat.le_of_ble_eq_true rfl) dX5_mixWhole_116 ⟨Nat.le_of_ble_eq_true rfl, Nat.le_of_ble_eq_true rfl⟩) hP hD hS hA [] rfl (fun r32 u H locs hw hP hS => ?_)
  try dsimp only at hw
  refine lv_lstore_n (lv' := [(3, .long r32), (0, .ref qm), (1, .long a1)]) hx hb dX5_mixWhole_119 rfl hl (by decide) rfl (fun ls hl => ?_)
  refine lv_lload_n hx hb dX5_mixWhole_120 rfl (lv_at hl 0 rfl) ?_
  refine lv_aload_n hx hb dX5_mixWhole_121 rfl (lv_at hl 1 rfl) ?_
  refine kcR_d (kr_V [.long r32] ⟨hx, hb, hml, hown, hts⟩ (cn_X5_bookedShare l G qm qd qs qn qk qt qr qx qdb qde qdf db de df dc dp dk hw H.size) (cwV 0 hts gX5_mixWhole_X5_bookedShare rfl rfl rfl (by decide +kernel) ⟨Nat.le_of_ble_eq_true rfl, Nat.le_of_ble_eq_true rfl⟩) hK hG hP hD hS hA [0, 1, 2, 3, 4] rfl rfl 5 0 rfl rfl rfl hl.1 rfl (Nat.le_of_ble_eq_true rfl) dX5_mixWhole_122 ⟨Nat.le_of_ble_eq_true rfl, Nat.le_of_ble_eq_true rfl⟩) hP hD hS hA [0, 1, 2, 3, 4] rfl (fun r33 u H locs hw hP hS => ?_)
  try dsimp only at hw
  refine kcR_l (kr_S [.long r32] ⟨hx, hb, hml, hown, hts⟩ (cn_X5_doubleBits l G r33 hw H.size) (va_cwS 1 hts gX5_mixWhole_X5_doubleBits rfl rfl rfl (by decide +kernel) ⟨Nat.le_of_ble_eq_true rfl, Nat.le_of_ble_eq_true rfl⟩) hK hG hP hD hS hA [] rfl rfl rfl hl.1 rfl (Nat.le_of_ble_eq_true rfl) dX5_mixWhole_125 ⟨Nat.le_of_ble_eq_true rfl, Nat.le_of_ble_eq_true rfl⟩) hP hD hS hA [] rfl (fun r34 u H locs hw hP hS => ?_)
  try dsimp only at hw
  refine kcR_l (kr_S [] ⟨hx, hb, hml, hown, hts⟩ (cn_X5_mix l G r32 r34 hw H.size) (va_cwS 2 hts gX5_mixWhole_X5_mix rfl rfl rfl (by decide +kernel) ⟨Nat.le_of_ble_eq_true rfl, Nat.le_of_ble_eq_true rfl⟩) hK hG hP hD hS hA [] rfl rfl rfl hl.1 rfl (Nat.le_of_ble_eq_true rfl) dX5_mixWhole_128 ⟨Nat.le_of_ble_eq_true rfl, Nat.le_of_ble_eq_true rfl⟩) hP hD hS hA [] rfl (fun r35 u H locs hw hP hS => ?_)
  try dsimp only at hw
  exact fin_l (ro_14, rg_15, ho_29, hc_18, ht_26) hx hb hr hlocks hK hS hP hD hw dX5_mixWhole_131

set_option maxHeartbeats 8000000 in
set_option maxRecDepth 100000 in
theorem cn_X5_requireRehearsal (l : Launch) (G : mG) (qm : Nat) (qd : Nat) (qs : Nat) (qn : Nat) (qk : Nat) (qt : Nat) (qr : Nat) (qx : Nat) (qdb : Nat) (qde : Nat) (qdf : Nat) (db : Nat → Int32) (de : Nat → Int32) (df : Nat → Int32) (dc : Int32) (dp : Int32) (dk : Int32) (a1 : Int32) {Q : Prop} (hw : wn_X5_requireRehearsal dc a1 Q) (sz : Nat) :
    Met l yX5_requireRehearsal wsX5_requireRehearsal ({ frames := 0, cells := 0, slots := 0, locals := 0 } : Room) (va_Pc [.ref qm, .int a1] (mPre G (w0_X5_requireRehearsal G qm qd qs qn qk qt qr qx qdb qde qdf db de df dc dp dk) sz)) (va_Qv (fun (u : Unit) => Q) (mBk G (va_A (w0_X5_requireRehearsal G qm qd qs qn qk qt qr qx qdb qde qdf db de df dc dp dk) sz) (fun (u : Unit) => (w0_X5_requireRehearsal G qm qd qs qn qk qt qr qx qdb qde qdf db de df dc dp dk))) (va_A (w0_X5_requireRehearsal G qm qd qs qn qk qt qr qx qdb qde qdf db de df dc dp dk) sz)) 0 0 (va_A (w0_X5_requireRehearsal G qm qd qs qn qk qt qr qx qdb qde qdf db de df dc dp dk) sz) := by
  refine ms_v (cc := cX5_requireRehearsal) (maxL := 2) (ret := none) (post := (fun (u : Unit) => Q)) (w1 := (fun (u : Unit) => (w0_X5_requireRehearsal G qm qd qs qn qk qt qr qx qdb qde qdf db de df dc dp dk))) (by decide) rfl (Nat.le_of_ble_eq_true rfl) ?_ sz
  intro p e s m below meth c A ls H locs hx hb hr hml hown hts hlocks hK hG hP hD hS hA hl
  have hown : s.vm.findClass RX5 = some m.cls := hown
  have hl : lv_has ls 2 [(0, .ref qm), (1, .int a1)] := hl
  have J15 : ∀ (x1 : Int32) (H : Heap) (locs : List Loc) (ls : Array Slot), va_P (gD G) vwCl (w0_X5_requireRehearsal G qm qd qs qn qk qt qr qx qdb qde qdf db de df dc dp dk) H → va_D A (w0_X5_requireRehearsal G qm qd qs qn qk qt qr qx qdb qde qdf db de df dc dp dk) → va_S A s.heap H locs → lv_has ls 2 [(0, .ref qm), (1, .int x1)] → wj_n_X5_requireRehearsal_15 dc Q x1 → W p l e ({ frames := 0, cells := 0, slots := 0, locals := 0 } : Room) s m ([.ref qm, .int a1] : List Value).toArray below meth c H locs 0 0 (MQ below (va_Qv (fun (u : Unit) => Q) (mBk G A (fun (u : Unit) => (w0_X5_requireRehearsal G qm qd qs qn qk qt qr qx qdb qde qdf db de df dc dp dk))) A) ([.ref qm, .int a1] : List Value).toArray s 0 0 A) (F0 m 15 ls []) := by
    intro x1 H locs ls hP hD hS hl hw
    unfold wj_n_X5_requireRehearsal_15 at hw
    exact False.elim hw
  unfold wn_X5_requireRehearsal at hw
  refine lv_iload_n hx hb dX5_requireRehearsal_0 rfl (lv_at hl 1 rfl) ?_
  refine lv_if_lt (tgt := 15) hx hb dX5_requireRehearsal_1 (by decide) (fun cd1 => ?_) (fun cd1 => ?_)
  · have hw := hw.1 cd1
    exact J15 a1 _ _ _ hP hD hS hl hw
  · have hw := hw.2 cd1
    refine lv_iload_n hx hb dX5_requireRehearsal_4 rfl (lv_at hl 1 rfl) ?_
    refine lv_aload_n hx hb dX5_requireRehearsal_5 rfl (lv_at hl 0 rfl) ?_
    refine va_get (D := gD G) (ci := 5) (v := .ref qd) (C := RX5) (T := TX5) (N := 7) hx hb hts k_X5_requireRehearsal_inX5 hown hK hP 0 rfl rfl 0 (by decide) (hts _ k_X5_requireRehearsal_f10) (fun _ h9 => h9) rfl dX5_requireRehearsal_6 ?_
    refine va_get (D := gD G) (ci := 1) (v := .int dc) (C := RX1) (T := TX1) (N := 6) hx hb hts k_X5_requireRehearsal_inX1 hown hK hP 1 rfl rfl 3 (by decide) (hts _ k_X5_requireRehearsal_f71) (fun _ h9 => h9) rfl dX5_requireRehearsal_9 ?_
    refine lv_icmp_lt (tgt := 26) hx hb dX5_requireRehearsal_12 (by decide) (fun cd2 => ?_) (fun cd2 => ?_)
    · have hw := hw.1 cd2
      exact fin_v () hx hb hr hlocks hK hS hP hD hw dX5_requireRehearsal_26
    · have hw := hw.2 cd2
      exact J15 a1 _ _ _ hP hD hS hl hw

set_option maxHeartbeats 8000000 in
set_option maxRecDepth 100000 in
theorem cn_X5_beginOf (l : Launch) (G : mG) (qm : Nat) (qd : Nat) (qs : Nat) (qn : Nat) (qk : Nat) (qt : Nat) (qr : Nat) (qx : Nat) (qdb : Nat) (qde : Nat) (qdf : Nat) (db : Nat → Int32) (de : Nat → Int32) (df : Nat → Int32) (dc : Int32) (dp : Int32) (dk : Int32) (a1 : Int32) {Q : Int32 → Prop} (hw : wn_X5_beginOf db dc a1 Q) (sz : Nat) :
    Met l yX5_beginOf wsX5_beginOf ({ frames := 1, cells := 0, slots := 0, locals := 21 } : Room) (va_Pc [.ref qm, .int a1] (mPre G (w0_X5_beginOf G qm qd qs qn qk qt qr qx qdb qde qdf db de df dc dp dk) sz)) (va_Qi (fun (r : Int32) (u : Unit) => Q r) (mBk G (va_A (w0_X5_beginOf G qm qd qs qn qk qt qr qx qdb qde qdf db de df dc dp dk) sz) (fun (u : Unit) => (w0_X5_beginOf G qm qd qs qn qk qt qr qx qdb qde qdf db de df dc dp dk))) (va_A (w0_X5_beginOf G qm qd qs qn qk qt qr qx qdb qde qdf db de df dc dp dk) sz)) 0 0 (va_A (w0_X5_beginOf G qm qd qs qn qk qt qr qx qdb qde qdf db de df dc dp dk) sz) := by
  refine ms_i (cc := cX5_beginOf) (maxL := 2) (ret := some .int) (post := (fun (r : Int32) (u : Unit) => Q r)) (w1 := (fun (u : Unit) => (w0_X5_beginOf G qm qd qs qn qk qt qr qx qdb qde qdf db de df dc dp dk))) (by decide) rfl (Nat.le_of_ble_eq_true rfl) ?_ sz
  intro p e s m below meth c A ls H locs hx hb hr hml hown hts hlocks hK hG hP hD hS hA hl
  have hown : s.vm.findClass RX5 = some m.cls := hown
  have hl : lv_has ls 2 [(0, .ref qm), (1, .int a1)] := hl
  unfold wn_X5_beginOf at hw
  refine lv_aload_n hx hb dX5_beginOf_0 rfl (lv_at hl 0 rfl) ?_
  refine lv_iload_n hx hb dX5_beginOf_1 rfl (lv_at hl 1 rfl) ?_
  refine kcR_v (kr_V [] ⟨hx, hb, hml, hown, hts⟩ (cn_X5_requireRehearsal l G qm qd qs qn qk qt qr qx qdb qde qdf db de df dc dp dk a1 hw H.size) (cwV 1 hts gX5_beginOf_X5_requireRehearsal rfl rfl rfl (by decide +kernel) ⟨Nat.le_of_ble_eq_true rfl, Nat.le_of_ble_eq_true rfl⟩) hK hG hP hD hS hA [0, 1, 2, 3, 4] rfl rfl 5 0 rfl rfl rfl hl.1 rfl (Nat.le_of_ble_eq_true rfl) dX5_beginOf_2 ⟨Nat.le_of_ble_eq_true rfl, Nat.le_of_ble_eq_true rfl⟩) hP hD hS hA [0, 1, 2, 3, 4] rfl (fun u H locs hw hP hS => ?_)
  try dsimp only at hw
  refine lv_aload_n hx hb dX5_beginOf_5 rfl (lv_at hl 0 rfl) ?_
  refine va_get (D := gD G) (ci := 5) (v := .ref qd) (C := RX5) (T := TX5) (N := 7) hx hb hts k_X5_beginOf_inX5 hown hK hP 0 rfl rfl 0 (by decide) (hts _ k_X5_beginOf_f10) (fun _ h9 => h9) rfl dX5_beginOf_6 ?_
  refine va_get (D := gD G) (ci := 1) (v := .ref qdb) (C := RX1) (T := TX1) (N := 6) hx hb hts k_X5_beginOf_inX1 hown hK hP 1 rfl rfl 0 (by decide) (hts _ k_X5_beginOf_f104) (fun _ h9 => h9) rfl dX5_beginOf_9 ?_
  refine lv_iload_n hx hb dX5_beginOf_12 rfl (lv_at hl 1 rfl) ?_
  obtain ⟨h1, hw⟩ := hw
  refine va_iald hx hb hK hP 2 0 rfl rfl h1 dX5_beginOf_13 ?_
  exact fin_i () hx hb hr hlocks hK hS hP hD hw dX5_beginOf_14

set_option maxHeartbeats 8000000 in
set_option maxRecDepth 100000 in
theorem cn_X5_endOf (l : Launch) (G : mG) (qm : Nat) (qd : Nat) (qs : Nat) (qn : Nat) (qk : Nat) (qt : Nat) (qr : Nat) (qx : Nat) (qdb : Nat) (qde : Nat) (qdf : Nat) (db : Nat → Int32) (de : Nat → Int32) (df : Nat → Int32) (dc : Int32) (dp : Int32) (dk : Int32) (a1 : Int32) {Q : Int32 → Prop} (hw : wn_X5_endOf de dc a1 Q) (sz : Nat) :
    Met l yX5_endOf wsX5_endOf ({ frames := 1, cells := 0, slots := 0, locals := 21 } : Room) (va_Pc [.ref qm, .int a1] (mPre G (w0_X5_endOf G qm qd qs qn qk qt qr qx qdb qde qdf db de df dc dp dk) sz)) (va_Qi (fun (r : Int32) (u : Unit) => Q r) (mBk G (va_A (w0_X5_endOf G qm qd qs qn qk qt qr qx qdb qde qdf db de df dc dp dk) sz) (fun (u : Unit) => (w0_X5_endOf G qm qd qs qn qk qt qr qx qdb qde qdf db de df dc dp dk))) (va_A (w0_X5_endOf G qm qd qs qn qk qt qr qx qdb qde qdf db de df dc dp dk) sz)) 0 0 (va_A (w0_X5_endOf G qm qd qs qn qk qt qr qx qdb qde qdf db de df dc dp dk) sz) := by
  refine ms_i (cc := cX5_endOf) (maxL := 2) (ret := some .int) (post := (fun (r : Int32) (u : Unit) => Q r)) (w1 := (fun (u : Unit) => (w0_X5_endOf G qm qd qs qn qk qt qr qx qdb qde qdf db de df dc dp dk))) (by decide) rfl (Nat.le_of_ble_eq_true rfl) ?_ sz
  intro p e s m below meth c A ls H locs hx hb hr hml hown hts hlocks hK hG hP hD hS hA hl
  have hown : s.vm.findClass RX5 = some m.cls := hown
  have hl : lv_has ls 2 [(0, .ref qm), (1, .int a1)] := hl
  unfold wn_X5_endOf at hw
  refine lv_aload_n hx hb dX5_endOf_0 rfl (lv_at hl 0 rfl) ?_
  refine lv_iload_n hx hb dX5_endOf_1 rfl (lv_at hl 1 rfl) ?_
  refine kcR_v (kr_V [] ⟨hx, hb, hml, hown, hts⟩ (cn_X5_requireRehearsal l G qm qd qs qn qk qt qr qx qdb qde qdf db de df dc dp dk a1 hw H.size) (cwV 1 hts gX5_endOf_X5_requireRehearsal rfl rfl rfl (by decide +kernel) ⟨Nat.le_of_ble_eq_true rfl, Nat.le_of_ble_eq_true rfl⟩) hK hG hP hD hS hA [0, 1, 2, 3, 4] rfl rfl 5 0 rfl rfl rfl hl.1 rfl (Nat.le_of_ble_eq_true rfl) dX5_endOf_2 ⟨Nat.le_of_ble_eq_true rfl, Nat.le_of_ble_eq_true rfl⟩) hP hD hS hA [0, 1, 2, 3, 4] rfl (fun u H locs hw hP hS => ?_)
  try dsimp only at hw
  refine lv_aload_n hx hb dX5_endOf_5 rfl (lv_at hl 0 rfl) ?_
  refine va_get (D := gD G) (ci := 5) (v := .ref qd) (C := RX5) (T := TX5) (N := 7) hx hb hts k_X5_endOf_inX5 hown hK hP 0 rfl rfl 0 (by decide) (hts _ k_X5_endOf_f10) (fun _ h9 => h9) rfl dX5_endOf_6 ?_
  refine va_get (D := gD G) (ci := 1) (v := .ref qde) (C := RX1) (T := TX1) (N := 6) hx hb hts k_X5_endOf_inX1 hown hK hP 1 rfl rfl 1 (by decide) (hts _ k_X5_endOf_f107) (fun _ h9 => h9) rfl dX5_endOf_9 ?_
  refine lv_iload_n hx hb dX5_endOf_12 rfl (lv_at hl 1 rfl) ?_
  obtain ⟨h1, hw⟩ := hw
  refine va_iald hx hb hK hP 3 0 rfl rfl h1 dX5_endOf_13 ?_
  exact fin_i () hx hb hr hlocks hK hS hP hD hw dX5_endOf_14

set_option maxHeartbeats 8000000 in
set_option maxRecDepth 100000 in
theorem cn_X5_fameOf (l : Launch) (G : mG) (qm : Nat) (qd : Nat) (qs : Nat) (qn : Nat) (qk : Nat) (qt : Nat) (qr : Nat) (qx : Nat) (qdb : Nat) (qde : Nat) (qdf : Nat) (db : Nat → Int32) (de : Nat → Int32) (df : Nat → Int32) (dc : Int32) (dp : Int32) (dk : Int32) (a1 : Int32) {Q : Int32 → Prop} (hw : wn_X5_fameOf df dc a1 Q) (sz : Nat) :
    Met l yX5_fameOf wsX5_fameOf ({ frames := 1, cells := 0, slots := 0, locals := 21 } : Room) (va_Pc [.ref qm, .int a1] (mPre G (w0_X5_fameOf G qm qd qs qn qk qt qr qx qdb qde qdf db de df dc dp dk) sz)) (va_Qi (fun (r : Int32) (u : Unit) => Q r) (mBk G (va_A (w0_X5_fameOf G qm qd qs qn qk qt qr qx qdb qde qdf db de df dc dp dk) sz) (fun (u : Unit) => (w0_X5_fameOf G qm qd qs qn qk qt qr qx qdb qde qdf db de df dc dp dk))) (va_A (w0_X5_fameOf G qm qd qs qn qk qt qr qx qdb qde qdf db de df dc dp dk) sz)) 0 0 (va_A (w0_X5_fameOf G qm qd qs qn qk qt qr qx qdb qde qdf db de df dc dp dk) sz) := by
  refine ms_i (cc := cX5_fameOf) (maxL := 2) (ret := some .int) (post := (fun (r : Int32) (u : Unit) => Q r)) (w1 := (fun (u : Unit) => (w0_X5_fameOf G qm qd qs qn qk qt qr qx qdb qde qdf db de df dc dp dk))) (by decide) rfl (Nat.le_of_ble_eq_true rfl) ?_ sz
  intro p e s m below meth c A ls H locs hx hb hr hml hown hts hlocks hK hG hP hD hS hA hl
  have hown : s.vm.findClass RX5 = some m.cls := hown
  have hl : lv_has ls 2 [(0, .ref qm), (1, .int a1)] := hl
  unfold wn_X5_fameOf at hw
  refine lv_aload_n hx hb dX5_fameOf_0 rfl (lv_at hl 0 rfl) ?_
  refine lv_iload_n hx hb dX5_fameOf_1 rfl (lv_at hl 1 rfl) ?_
  refine kcR_v (kr_V [] ⟨hx, hb, hml, hown, hts⟩ (cn_X5_requireRehearsal l G qm qd qs qn qk qt qr qx qdb qde qdf db de df dc dp dk a1 hw H.size) (cwV 1 hts gX5_fameOf_X5_requireRehearsal rfl rfl rfl (by decide +kernel) ⟨Nat.le_of_ble_eq_true rfl, Nat.le_of_ble_eq_true rfl⟩) hK hG hP hD hS hA [0, 1, 2, 3, 4] rfl rfl 5 0 rfl rfl rfl hl.1 rfl (Nat.le_of_ble_eq_true rfl) dX5_fameOf_2 ⟨Nat.le_of_ble_eq_true rfl, Nat.le_of_ble_eq_true rfl⟩) hP hD hS hA [0, 1, 2, 3, 4] rfl (fun u H locs hw hP hS => ?_)
  try dsimp only at hw
  refine lv_aload_n hx hb dX5_fameOf_5 rfl (lv_at hl 0 rfl) ?_
  refine va_get (D := gD G) (ci := 5) (v := .ref qd) (C := RX5) (T := TX5) (N := 7) hx hb hts k_X5_fameOf_inX5 hown hK hP 0 rfl rfl 0 (by decide) (hts _ k_X5_fameOf_f10) (fun _ h9 => h9) rfl dX5_fameOf_6 ?_
  refine va_get (D := gD G) (ci := 1) (v := .ref qdf) (C := RX1) (T := TX1) (N := 6) hx hb hts k_X5_fameOf_inX1 hown hK hP 1 rfl rfl 2 (by decide) (hts _ k_X5_fameOf_f78) (fun _ h9 => h9) rfl dX5_fameOf_9 ?_
  refine lv_iload_n hx hb dX5_fameOf_12 rfl (lv_at hl 1 rfl) ?_
  obtain ⟨h1, hw⟩ := hw
  refine va_iald hx hb hK hP 4 0 rfl rfl h1 dX5_fameOf_13 ?_
  exact fin_i () hx hb hr hlocks hK hS hP hD hw dX5_fameOf_14

set_option maxHeartbeats 8000000 in
set_option maxRecDepth 100000 in
theorem cn_X5_famePerQuarter (l : Launch) (G : mG) (qm : Nat) (qd : Nat) (qs : Nat) (qn : Nat) (qk : Nat) (qt : Nat) (qr : Nat) (qx : Nat) (qdb : Nat) (qde : Nat) (qdf : Nat) (db : Nat → Int32) (de : Nat → Int32) (df : Nat → Int32) (dc : Int32) (dp : Int32) (dk : Int32) (a1 : Int32) {Q : UInt32 → Prop} (hw : wn_X5_famePerQuarter db de df dc a1 Q) (sz : Nat) :
    Met l yX5_famePerQuarter wsX5_famePerQuarter ({ frames := 1, cells := 0, slots := 0, locals := 21 } : Room) (va_Pc [.ref qm, .int a1] (mPre G (w0_X5_famePerQuarter G qm qd qs qn qk qt qr qx qdb qde qdf db de df dc dp dk) sz)) (va_Qf (fun (r : UInt32) (u : Unit) => Q r) (mBk G (va_A (w0_X5_famePerQuarter G qm qd qs qn qk qt qr qx qdb qde qdf db de df dc dp dk) sz) (fun (u : Unit) => (w0_X5_famePerQuarter G qm qd qs qn qk qt qr qx qdb qde qdf db de df dc dp dk))) (va_A (w0_X5_famePerQuarter G qm qd qs qn qk qt qr qx qdb qde qdf db de df dc dp dk) sz)) 0 0 (va_A (w0_X5_famePerQuarter G qm qd qs qn qk qt qr qx qdb qde qdf db de df dc dp dk) sz) := by
  refine ms_f (cc := cX5_famePerQuarter) (maxL := 2) (ret := some .float) (post := (fun (r : UInt32) (u : Unit) => Q r)) (w1 := (fun (u : Unit) => (w0_X5_famePerQuarter G qm qd qs qn qk qt qr qx qdb qde qdf db de df dc dp dk))) (by decide) rfl (Nat.le_of_ble_eq_true rfl) ?_ sz
  intro p e s m below meth c A ls H locs hx hb hr hml hown hts hlocks hK hG hP hD hS hA hl
  have hown : s.vm.findClass RX5 = some m.cls := hown
  have hl : lv_has ls 2 [(0, .ref qm), (1, .int a1)] := hl
  unfold wn_X5_famePerQuarter at hw
  refine lv_aload_n hx hb dX5_famePerQuarter_0 rfl (lv_at hl 0 rfl) ?_
  refine lv_iload_n hx hb dX5_famePerQuarter_1 rfl (lv_at hl 1 rfl) ?_
  refine kcR_v (kr_V [] ⟨hx, hb, hml, hown, hts⟩ (cn_X5_requireRehearsal l G qm qd qs qn qk qt qr qx qdb qde qdf db de df dc dp dk a1 hw H.size) (cwV 1 hts gX5_famePerQuarter_X5_requireRehearsal rfl rfl rfl (by decide +kernel) ⟨Nat.le_of_ble_eq_true rfl, Nat.le_of_ble_eq_true rfl⟩) hK hG hP hD hS hA [0, 1, 2, 3, 4] rfl rfl 5 0 rfl rfl rfl hl.1 rfl (Nat.le_of_ble_eq_true rfl) dX5_famePerQuarter_2 ⟨Nat.le_of_ble_eq_true rfl, Nat.le_of_ble_eq_true rfl⟩) hP hD hS hA [0, 1, 2, 3, 4] rfl (fun u H locs hw hP hS => ?_)
  try dsimp only at hw
  refine lv_aload_n hx hb dX5_famePerQuarter_5 rfl (lv_at hl 0 rfl) ?_
  refine va_get (D := gD G) (ci := 5) (v := .ref qd) (C := RX5) (T := TX5) (N := 7) hx hb hts k_X5_famePerQuarter_inX5 hown hK hP 0 rfl rfl 0 (by decide) (hts _ k_X5_famePerQuarter_f10) (fun _ h9 => h9) rfl dX5_famePerQuarter_6 ?_
  refine va_get (D := gD G) (ci := 1) (v := .ref qdf) (C := RX1) (T := TX1) (N := 6) hx hb hts k_X5_famePerQuarter_inX1 hown hK hP 1 rfl rfl 2 (by decide) (hts _ k_X5_famePerQuarter_f78) (fun _ h9 => h9) rfl dX5_famePerQuarter_9 ?_
  refine lv_iload_n hx hb dX5_famePerQuarter_12 rfl (lv_at hl 1 rfl) ?_
  obtain ⟨h1, hw⟩ := hw
  refine va_iald hx hb hK hP 4 0 rfl rfl h1 dX5_famePerQuarter_13 ?_
  refine lv_i2f hx hb dX5_famePerQuarter_14 ?_
  refine lv_aload_n hx hb dX5_famePerQuarter_15 rfl (lv_at hl 0 rfl) ?_
  refine va_get (D := gD G) (ci := 5) (v := .ref qd) (C := RX5) (T := TX5) (N := 7) hx hb hts k_X5_famePerQuarter_inX5 hown hK hP 0 rfl rfl 0 (by decide) (hts _ k_X5_famePerQuarter_f10) (fun _ h9 => h9) rfl dX5_famePerQuarter_16 ?_
  refine lv_iload_n hx hb dX5_famePerQuarter_19 rfl (lv_at hl 1 rfl) ?_
  refine kcR_i (kr_V [.float (FP.i2f (df a1.toNatClampNeg))] ⟨hx, hb, hml, hown, hts⟩ (cn_X1_quartersOf l G qd qdb qde qdf db de df dc dp dk a1 hw H.size) (cwV 1 hts gX5_famePerQuarter_X1_quartersOf rfl rfl rfl (by decide +kernel) ⟨Nat.le_of_ble_eq_true rfl, Nat.le_of_ble_eq_true rfl⟩) hK hG hP hD hS hA [1, 2, 3, 4] rfl rfl 1 1 rfl rfl rfl hl.1 rfl (Nat.le_of_ble_eq_true rfl) dX5_famePerQuarter_20 ⟨Nat.le_of_ble_eq_true rfl, Nat.le_of_ble_eq_true rfl⟩) hP hD hS hA [1, 2, 3, 4] rfl (fun r2 u H locs hw hP hS => ?_)
  try dsimp only at hw
  refine lv_i2f hx hb dX5_famePerQuarter_23 ?_
  obtain ⟨h3, hw⟩ := hw
  refine lv_fdiv hx hb dX5_famePerQuarter_24 h3 ?_
  exact fin_f () hx hb hr hlocks hK hS hP hD hw dX5_famePerQuarter_25

abbrev w0_X5_floatBits (G : mG) : va_W := []
set_option maxHeartbeats 8000000 in
set_option maxRecDepth 100000 in
theorem cn_X5_floatBits (l : Launch) (G : mG) (a0 : UInt32) {Q : Int64 → Prop} (hw : wn_X5_floatBits a0 Q) (sz : Nat) :
    Met l yX5_floatBits wsX5_floatBits ({ frames := 1, cells := 0, slots := 0, locals := 28 } : Room) (va_Pc [.float a0] (mPre G (w0_X5_floatBits G) sz)) (va_Ql (fun (r : Int64) (u : Unit) => Q r) (mBk G (va_A (w0_X5_floatBits G) sz) (fun (u : Unit) => (w0_X5_floatBits G))) (va_A (w0_X5_floatBits G) sz)) 0 0 (va_A (w0_X5_floatBits G) sz) := by
  refine ms_l (cc := cX5_floatBits) (maxL := 1) (ret := some .long) (post := (fun (r : Int64) (u : Unit) => Q r)) (w1 := (fun (u : Unit) => (w0_X5_floatBits G))) (by decide) rfl (Nat.le_of_ble_eq_true rfl) ?_ sz
  intro p e s m below meth c A ls H locs hx hb hr hml hown hts hlocks hK hG hP hD hS hA hl
  have hown : s.vm.findClass RX5 = some m.cls := hown
  have hl : lv_has ls 1 [(0, .float a0)] := hl
  unfold wn_X5_floatBits at hw
  refine lv_fload_n hx hb dX5_floatBits_0 rfl (lv_at hl 0 rfl) ?_
  obtain ⟨h1, hw⟩ := hw
  refine lv_f2d hx hb dX5_floatBits_1 h1 ?_
  refine lv_bipush (v := 23) hx hb dX5_floatBits_2 (by decide) ?_
  refine lv_bipush (v := 127) hx hb dX5_floatBits_4 (by decide) ?_
  refine kcR_l (kr_S [] ⟨hx, hb, hml, hown, hts⟩ (cn_X5_bitsOf l G (FP.f2d a0) (23 : Int32) (127 : Int32) hw H.size) (va_cwS 3 hts gX5_floatBits_X5_bitsOf rfl rfl rfl (by decide +kernel) ⟨Nat.le_of_ble_eq_true rfl, Nat.le_of_ble_eq_true rfl⟩) hK hG hP hD hS hA [] rfl rfl rfl hl.1 rfl (Nat.le_of_ble_eq_true rfl) dX5_floatBits_6 ⟨Nat.le_of_ble_eq_true rfl, Nat.le_of_ble_eq_true rfl⟩) hP hD hS hA [] rfl (fun r2 u H locs hw hP hS => ?_)
  try dsimp only at hw
  exact fin_l () hx hb hr hlocks hK hS hP hD hw dX5_floatBits_9

set_option maxHeartbeats 8000000 in
set_option maxRecDepth 100000 in
theorem cn_X5_isBooked (l : Launch) (G : mG) (qm : Nat) (qd : Nat) (qs : Nat) (qn : Nat) (qk : Nat) (qt : Nat) (qr : Nat) (qx : Nat) (qdb : Nat) (qde : Nat) (qdf : Nat) (db : Nat → Int32) (de : Nat → Int32) (df : Nat → Int32) (dc : Int32) (dp : Int32) (dk : Int32) (a1 : Int32) {Q : Int32 → Prop} (hw : wn_X5_isBooked dc dk a1 Q) (sz : Nat) :
    Met l yX5_isBooked wsX5_isBooked ({ frames := 3, cells := 0, slots := 0, locals := 62 } : Room) (va_Pc [.ref qm, .int a1] (mPre G (w0_X5_isBooked G qm qd qs qn qk qt qr qx qdb qde qdf db de df dc dp dk) sz)) (va_Qi (fun (r : Int32) (u : Unit) => (r = 0 ∨ r = 1) ∧ Q r) (mBk G (va_A (w0_X5_isBooked G qm qd qs qn qk qt qr qx qdb qde qdf db de df dc dp dk) sz) (fun (u : Unit) => (w0_X5_isBooked G qm qd qs qn qk qt qr qx qdb qde qdf db de df dc dp dk))) (va_A (w0_X5_isBooked G qm qd qs qn qk qt qr qx qdb qde qdf db de df dc dp dk) sz)) 0 0 (va_A (w0_X5_isBooked G qm qd qs qn qk qt qr qx qdb qde qdf db de df dc dp dk) sz) := by
  refine ms_i (cc := cX5_isBooked) (maxL := 2) (ret := some .boolean) (post := (fun (r : Int32) (u : Unit) => (r = 0 ∨ r = 1) ∧ Q r)) (w1 := (fun (u : Unit) => (w0_X5_isBooked G qm qd qs qn qk qt qr qx qdb qde qdf db de df dc dp dk))) (by decide) rfl (Nat.le_of_ble_eq_true rfl) ?_ sz
  intro p e s m below meth c A ls H locs hx hb hr hml hown hts hlocks hK hG hP hD hS hA hl
  have hown : s.vm.findClass RX5 = some m.cls := hown
  have hl : lv_has ls 2 [(0, .ref qm), (1, .int a1)] := hl
  unfold wn_X5_isBooked at hw
  refine lv_aload_n hx hb dX5_isBooked_0 rfl (lv_at hl 0 rfl) ?_
  refine lv_iload_n hx hb dX5_isBooked_1 rfl (lv_at hl 1 rfl) ?_
  refine kcR_v (kr_V [] ⟨hx, hb, hml, hown, hts⟩ (cn_X5_requireRehearsal l G qm qd qs qn qk qt qr qx qdb qde qdf db de df dc dp dk a1 hw H.size) (cwV 1 hts gX5_isBooked_X5_requireRehearsal rfl rfl rfl (by decide +kernel) ⟨Nat.le_of_ble_eq_true rfl, Nat.le_of_ble_eq_true rfl⟩) hK hG hP hD hS hA [0, 1, 2, 3, 4] rfl rfl 5 0 rfl rfl rfl hl.1 rfl (Nat.le_of_ble_eq_true rfl) dX5_isBooked_2 ⟨Nat.le_of_ble_eq_true rfl, Nat.le_of_ble_eq_true rfl⟩) hP hD hS hA [0, 1, 2, 3, 4] rfl (fun u H locs hw hP hS => ?_)
  try dsimp only at hw
  refine lv_aload_n hx hb dX5_isBooked_5 rfl (lv_at hl 0 rfl) ?_
  refine va_get (D := gD G) (ci := 5) (v := .ref qd) (C := RX5) (T := TX5) (N := 7) hx hb hts k_X5_isBooked_inX5 hown hK hP 0 rfl rfl 0 (by decide) (hts _ k_X5_isBooked_f10) (fun _ h9 => h9) rfl dX5_isBooked_6 ?_
  refine lv_iload_n hx hb dX5_isBooked_9 rfl (lv_at hl 1 rfl) ?_
  refine kcR_i (kr_V [] ⟨hx, hb, hml, hown, hts⟩ (cn_X1_hasBooked l G qd qdb qde qdf db de df dc dp dk a1 hw H.size) (cwV 1 hts gX5_isBooked_X1_hasBooked rfl rfl rfl (by decide +kernel) ⟨Nat.le_of_ble_eq_true rfl, Nat.le_of_ble_eq_true rfl⟩) hK hG hP hD hS hA [1, 2, 3, 4] rfl rfl 1 1 rfl rfl rfl hl.1 rfl (Nat.le_of_ble_eq_true rfl) dX5_isBooked_10 ⟨Nat.le_of_ble_eq_true rfl, Nat.le_of_ble_eq_true rfl⟩) hP hD hS hA [1, 2, 3, 4] rfl (fun r1 u H locs hw hP hS => ?_)
  try dsimp only at hw
  obtain ⟨hz_r1, hw⟩ := hw
  exact fin_z () hx hb hr (nz hz_r1) hlocks hK hS hP hD ⟨hz_r1, hw⟩ dX5_isBooked_13

set_option maxHeartbeats 8000000 in
set_option maxRecDepth 100000 in
theorem cn_X5_conflictsOf (l : Launch) (G : mG) (qm : Nat) (qd : Nat) (qs : Nat) (qn : Nat) (qk : Nat) (qt : Nat) (qr : Nat) (qx : Nat) (qdb : Nat) (qde : Nat) (qdf : Nat) (db : Nat → Int32) (de : Nat → Int32) (df : Nat → Int32) (dc : Int32) (dp : Int32) (dk : Int32) (a1 : Int32) {Q : Int32 → Prop} (hw : wn_X5_conflictsOf db de dc dp a1 Q) (sz : Nat) :
    Met l yX5_conflictsOf wsX5_conflictsOf ({ frames := 3, cells := 0, slots := 0, locals := 69 } : Room) (va_Pc [.ref qm, .int a1] (mPre G (w0_X5_conflictsOf G qm qd qs qn qk qt qr qx qdb qde qdf db de df dc dp dk) sz)) (va_Qi (fun (r : Int32) (u : Unit) => Q r) (mBk G (va_A (w0_X5_conflictsOf G qm qd qs qn qk qt qr qx qdb qde qdf db de df dc dp dk) sz) (fun (u : Unit) => (w0_X5_conflictsOf G qm qd qs qn qk qt qr qx qdb qde qdf db de df dc dp dk))) (va_A (w0_X5_conflictsOf G qm qd qs qn qk qt qr qx qdb qde qdf db de df dc dp dk) sz)) 0 0 (va_A (w0_X5_conflictsOf G qm qd qs qn qk qt qr qx qdb qde qdf db de df dc dp dk) sz) := by
  refine ms_i (cc := cX5_conflictsOf) (maxL := 2) (ret := some .int) (post := (fun (r : Int32) (u : Unit) => Q r)) (w1 := (fun (u : Unit) => (w0_X5_conflictsOf G qm qd qs qn qk qt qr qx qdb qde qdf db de df dc dp dk))) (by decide) rfl (Nat.le_of_ble_eq_true rfl) ?_ sz
  intro p e s m below meth c A ls H locs hx hb hr hml hown hts hlocks hK hG hP hD hS hA hl
  have hown : s.vm.findClass RX5 = some m.cls := hown
  have hl : lv_has ls 2 [(0, .ref qm), (1, .int a1)] := hl
  unfold wn_X5_conflictsOf at hw
  refine lv_aload_n hx hb dX5_conflictsOf_0 rfl (lv_at hl 0 rfl) ?_
  refine lv_iload_n hx hb dX5_conflictsOf_1 rfl (lv_at hl 1 rfl) ?_
  refine kcR_v (kr_V [] ⟨hx, hb, hml, hown, hts⟩ (cn_X5_requireRehearsal l G qm qd qs qn qk qt qr qx qdb qde qdf db de df dc dp dk a1 hw H.size) (cwV 1 hts gX5_conflictsOf_X5_requireRehearsal rfl rfl rfl (by decide +kernel) ⟨Nat.le_of_ble_eq_true rfl, Nat.le_of_ble_eq_true rfl⟩) hK hG hP hD hS hA [0, 1, 2, 3, 4] rfl rfl 5 0 rfl rfl rfl hl.1 rfl (Nat.le_of_ble_eq_true rfl) dX5_conflictsOf_2 ⟨Nat.le_of_ble_eq_true rfl, Nat.le_of_ble_eq_true rfl⟩) hP hD hS hA [0, 1, 2, 3, 4] rfl (fun u H locs hw hP hS => ?_)
  try dsimp only at hw
  refine lv_aload_n hx hb dX5_conflictsOf_5 rfl (lv_at hl 0 rfl) ?_
  refine va_get (D := gD G) (ci := 5) (v := .ref qd) (C := RX5) (T := TX5) (N := 7) hx hb hts k_X5_conflictsOf_inX5 hown hK hP 0 rfl rfl 0 (by decide) (hts _ k_X5_conflictsOf_f10) (fun _ h9 => h9) rfl dX5_conflictsOf_6 ?_
  refine lv_iload_n hx hb dX5_conflictsOf_9 rfl (lv_at hl 1 rfl) ?_
  refine kcR_i (kr_V [] ⟨hx, hb, hml, hown, hts⟩ (cn_X1_conflictsWith l G qd qdb qde qdf db de df dc dp dk a1 hw H.size) (cwV 1 hts gX5_conflictsOf_X1_conflictsWith rfl rfl rfl (by decide +kernel) ⟨Nat.le_of_ble_eq_true rfl, Nat.le_of_ble_eq_true rfl⟩) hK hG hP hD hS hA [1, 2, 3, 4] rfl rfl 1 1 rfl rfl rfl hl.1 rfl (Nat.le_of_ble_eq_true rfl) dX5_conflictsOf_10 ⟨Nat.le_of_ble_eq_true rfl, Nat.le_of_ble_eq_true rfl⟩) hP hD hS hA [1, 2, 3, 4] rfl (fun r1 u H locs hw hP hS => ?_)
  try dsimp only at hw
  refine kcR_i (kr_S [] ⟨hx, hb, hml, hown, hts⟩ (cn_J6_bitCount_0f7a4 l G r1 hw H.size) (va_cwS 1 hts gX5_conflictsOf_J6_bitCount_0f7a4 rfl rfl rfl (by decide +kernel) ⟨Nat.le_of_ble_eq_true rfl, Nat.le_of_ble_eq_true rfl⟩) hK hG hP hD hS hA [] rfl rfl rfl hl.1 rfl (Nat.le_of_ble_eq_true rfl) dX5_conflictsOf_13 ⟨Nat.le_of_ble_eq_true rfl, Nat.le_of_ble_eq_true rfl⟩) hP hD hS hA [] rfl (fun r2 u H locs hw hP hS => ?_)
  try dsimp only at hw
  exact fin_i () hx hb hr hlocks hK hS hP hD hw dX5_conflictsOf_16

set_option maxHeartbeats 8000000 in
set_option maxRecDepth 100000 in
theorem cn_X5_roomOf (l : Launch) (G : mG) (qm : Nat) (qd : Nat) (qs : Nat) (qn : Nat) (qk : Nat) (qt : Nat) (qr : Nat) (qx : Nat) (qdb : Nat) (qde : Nat) (qdf : Nat) (qro : Nat) (qrg : Nat) (db : Nat → Int32) (de : Nat → Int32) (df : Nat → Int32) (dc : Int32) (dp : Int32) (dk : Int32) (ro : Nat → Int32) (rg : Nat → Int32) (a1 : Int32) {Q : Int32 → (Nat → Int32) → (Nat → Int32) → Prop} (hw : wn_X5_roomOf db de dc dp ro rg a1 Q) (sz : Nat) :
    Met l yX5_roomOf wsX5_roomOf ({ frames := 5, cells := 0, slots := 0, locals := 114 } : Room) (va_Pc [.ref qm, .int a1] (mPre G (w0_X5_roomOf G qm qd qs qn qk qt qr qx qdb qde qdf qro qrg db de df dc dp dk ro rg) sz)) (va_Qi (fun (r : Int32) (u : (Nat → Int32) × (Nat → Int32)) => Q r u.1 u.2) (mBk G (va_A (w0_X5_roomOf G qm qd qs qn qk qt qr qx qdb qde qdf qro qrg db de df dc dp dk ro rg) sz) (fun (u : (Nat → Int32) × (Nat → Int32)) => (w0_X5_roomOf G qm qd qs qn qk qt qr qx qdb qde qdf qro qrg db de df dc dp dk u.1 u.2))) (va_A (w0_X5_roomOf G qm qd qs qn qk qt qr qx qdb qde qdf qro qrg db de df dc dp dk ro rg) sz)) 0 0 (va_A (w0_X5_roomOf G qm qd qs qn qk qt qr qx qdb qde qdf qro qrg db de df dc dp dk ro rg) sz) := by
  refine ms_i (cc := cX5_roomOf) (maxL := 2) (ret := some .int) (post := (fun (r : Int32) (u : (Nat → Int32) × (Nat → Int32)) => Q r u.1 u.2)) (w1 := (fun (u : (Nat → Int32) × (Nat → Int32)) => (w0_X5_roomOf G qm qd qs qn qk qt qr qx qdb qde qdf qro qrg db de df dc dp dk u.1 u.2))) (by decide) rfl (Nat.le_of_ble_eq_true rfl) ?_ sz
  intro p e s m below meth c A ls H locs hx hb hr hml hown hts hlocks hK hG hP hD hS hA hl
  have hown : s.vm.findClass RX5 = some m.cls := hown
  have hl : lv_has ls 2 [(0, .ref qm), (1, .int a1)] := hl
  unfold wn_X5_roomOf at hw
  refine lv_aload_n hx hb dX5_roomOf_0 rfl (lv_at hl 0 rfl) ?_
  refine lv_iload_n hx hb dX5_roomOf_1 rfl (lv_at hl 1 rfl) ?_
  refine kcR_v (kr_V [] ⟨hx, hb, hml, hown, hts⟩ (cn_X5_requireRehearsal l G qm qd qs qn qk qt qr qx qdb qde qdf db de df dc dp dk a1 hw H.size) (cwV 1 hts gX5_roomOf_X5_requireRehearsal rfl rfl rfl (by decide +kernel) ⟨Nat.le_of_ble_eq_true rfl, Nat.le_of_ble_eq_true rfl⟩) hK hG hP hD hS hA [0, 1, 2, 3, 4] rfl rfl 5 0 rfl rfl rfl hl.1 rfl (Nat.le_of_ble_eq_true rfl) dX5_roomOf_2 ⟨Nat.le_of_ble_eq_true rfl, Nat.le_of_ble_eq_true rfl⟩) hP hD hS hA [0, 1, 2, 3, 4] rfl (fun u H locs hw hP hS => ?_)
  try dsimp only at hw
  refine lv_aload_n hx hb dX5_roomOf_5 rfl (lv_at hl 0 rfl) ?_
  refine va_get (D := gD G) (ci := 5) (v := .ref qr) (C := RX5) (T := TX5) (N := 7) hx hb hts k_X5_roomOf_inX5 hown hK hP 0 rfl rfl 5 (by decide) (hts _ k_X5_roomOf_f41) (fun _ h9 => h9) rfl dX5_roomOf_6 ?_
  refine lv_aload_n hx hb dX5_roomOf_9 rfl (lv_at hl 0 rfl) ?_
  refine va_get (D := gD G) (ci := 5) (v := .ref qd) (C := RX5) (T := TX5) (N := 7) hx hb hts k_X5_roomOf_inX5 hown hK hP 0 rfl rfl 0 (by decide) (hts _ k_X5_roomOf_f10) (fun _ h9 => h9) rfl dX5_roomOf_10 ?_
  refine lv_iload_n hx hb dX5_roomOf_13 rfl (lv_at hl 1 rfl) ?_
  refine kc_i (kr_V [] ⟨hx, hb, hml, hown, hts⟩ (cn_X2_givenTo l G qr qro qrg qd qdb qde qdf ro rg db de df dc dp dk a1 hw H.size) (cwV 2 hts gX5_roomOf_X2_givenTo rfl rfl rfl (by decide +kernel) ⟨Nat.le_of_ble_eq_true rfl, Nat.le_of_ble_eq_true rfl⟩) hK hG hP hD hS hA [5, 6, 7, 1, 2, 3, 4] rfl rfl 2 5 rfl rfl rfl hl.1 rfl (Nat.le_of_ble_eq_true rfl) dX5_roomOf_14 ⟨Nat.le_of_ble_eq_true rfl, Nat.le_of_ble_eq_true rfl⟩) hP hD hS hA [5, 6, 7, 1, 2, 3, 4] [0] rfl rfl rfl (by decide) (fun r1 u H locs hw hP hD hS => ?_)
  obtain ⟨ro_2, rg_3⟩ := u
  try dsimp only at hw
  have hP := hP.sub (ws' := (w0_X5_roomOf G qm qd qs qn qk qt qr qx qdb qde qdf qro qrg db de df dc dp dk ro_2 rg_3)) [0, 4, 5, 6, 7, 1, 2, 3] rfl
  have hD := hD.sub (ws' := (w0_X5_roomOf G qm qd qs qn qk qt qr qx qdb qde qdf qro qrg db de df dc dp dk ro_2 rg_3)) [0, 4, 5, 6, 7, 1, 2, 3] rfl rfl
  exact fin_i (ro_2, rg_3) hx hb hr hlocks hK hS hP hD hw dX5_roomOf_17

set_option maxHeartbeats 8000000 in
set_option maxRecDepth 100000 in
theorem cn_X5_bestWith (l : Launch) (G : mG) (qm : Nat) (qd : Nat) (qs : Nat) (qn : Nat) (qk : Nat) (qt : Nat) (qr : Nat) (qx : Nat) (qdb : Nat) (qde : Nat) (qdf : Nat) (qxo : Nat) (qxc : Nat) (qxt : Nat) (db : Nat → Int32) (de : Nat → Int32) (df : Nat → Int32) (dc : Int32) (dp : Int32) (dk : Int32) (ho : Nat → Int32) (hc : Nat → Int32) (ht : Nat → Int32) (a1 : Int32) {Q : Int32 → (Nat → Int32) → (Nat → Int32) → Prop} (hw : wn_X5_bestWith db de df dc dp ho ht a1 Q) (sz : Nat) :
    Met l yX5_bestWith wsX5_bestWith ({ frames := 3, cells := 0, slots := 0, locals := 69 } : Room) (va_Pc [.ref qm, .int a1] (mPre G (w0_X5_bestWith G qm qd qs qn qk qt qr qx qdb qde qdf qxo qxc qxt db de df dc dp dk ho hc ht) sz)) (va_Qi (fun (r : Int32) (u : (Nat → Int32) × (Nat → Int32)) => Q r u.1 u.2) (mBk G (va_A (w0_X5_bestWith G qm qd qs qn qk qt qr qx qdb qde qdf qxo qxc qxt db de df dc dp dk ho hc ht) sz) (fun (u : (Nat → Int32) × (Nat → Int32)) => (w0_X5_bestWith G qm qd qs qn qk qt qr qx qdb qde qdf qxo qxc qxt db de df dc dp dk u.1 hc u.2))) (va_A (w0_X5_bestWith G qm qd qs qn qk qt qr qx qdb qde qdf qxo qxc qxt db de df dc dp dk ho hc ht) sz)) 0 0 (va_A (w0_X5_bestWith G qm qd qs qn qk qt qr qx qdb qde qdf qxo qxc qxt db de df dc dp dk ho hc ht) sz) := by
  refine ms_i (cc := cX5_bestWith) (maxL := 3) (ret := some .int) (post := (fun (r : Int32) (u : (Nat → Int32) × (Nat → Int32)) => Q r u.1 u.2)) (w1 := (fun (u : (Nat → Int32) × (Nat → Int32)) => (w0_X5_bestWith G qm qd qs qn qk qt qr qx qdb qde qdf qxo qxc qxt db de df dc dp dk u.1 hc u.2))) (by decide) rfl (Nat.le_of_ble_eq_true rfl) ?_ sz
  intro p e s m below meth c A ls H locs hx hb hr hml hown hts hlocks hK hG hP hD hS hA hl
  have hown : s.vm.findClass RX5 = some m.cls := hown
  have hl : lv_has ls 3 [(0, .ref qm), (1, .int a1)] := hl
  unfold wn_X5_bestWith at hw
  refine lv_aload_n hx hb dX5_bestWith_0 rfl (lv_at hl 0 rfl) ?_
  refine lv_iload_n hx hb dX5_bestWith_1 rfl (lv_at hl 1 rfl) ?_
  refine kcR_v (kr_V [] ⟨hx, hb, hml, hown, hts⟩ (cn_X5_requireRehearsal l G qm qd qs qn qk qt qr qx qdb qde qdf db de df dc dp dk a1 hw H.size) (cwV 1 hts gX5_bestWith_X5_requireRehearsal rfl rfl rfl (by decide +kernel) ⟨Nat.le_of_ble_eq_true rfl, Nat.le_of_ble_eq_true rfl⟩) hK hG hP hD hS hA [0, 1, 2, 3, 4] rfl rfl 5 0 rfl rfl rfl hl.1 rfl (Nat.le_of_ble_eq_true rfl) dX5_bestWith_2 ⟨Nat.le_of_ble_eq_true rfl, Nat.le_of_ble_eq_true rfl⟩) hP hD hS hA [0, 1, 2, 3, 4] rfl (fun u H locs hw hP hS => ?_)
  try dsimp only at hw
  refine lv_aload_n hx hb dX5_bestWith_5 rfl (lv_at hl 0 rfl) ?_
  refine va_get (D := gD G) (ci := 5) (v := .ref qd) (C := RX5) (T := TX5) (N := 7) hx hb hts k_X5_bestWith_inX5 hown hK hP 0 rfl rfl 0 (by decide) (hts _ k_X5_bestWith_f10) (fun _ h9 => h9) rfl dX5_bestWith_6 ?_
  refine kcR_i (kr_V [] ⟨hx, hb, hml, hown, hts⟩ (cn_X1_all l G qd qdb qde qdf db de df dc dp dk hw H.size) (cwV 0 hts gX5_bestWith_X1_all rfl rfl rfl (by decide +kernel) ⟨Nat.le_of_ble_eq_true rfl, Nat.le_of_ble_eq_true rfl⟩) hK hG hP hD hS hA [1, 2, 3, 4] rfl rfl 1 1 rfl rfl rfl hl.1 rfl (Nat.le_of_ble_eq_true rfl) dX5_bestWith_9 ⟨Nat.le_of_ble_eq_true rfl, Nat.le_of_ble_eq_true rfl⟩) hP hD hS hA [1, 2, 3, 4] rfl (fun r1 u H locs hw hP hS => ?_)
  try dsimp only at hw
  refine lv_iload_n hx hb dX5_bestWith_12 rfl (lv_at hl 1 rfl) ?_
  refine kcR_i (kr_S [.int r1] ⟨hx, hb, hml, hown, hts⟩ (cn_X5_bit l G a1 hw H.size) (va_cwS 1 hts gX5_bestWith_X5_bit rfl rfl rfl (by decide +kernel) ⟨Nat.le_of_ble_eq_true rfl, Nat.le_of_ble_eq_true rfl⟩) hK hG hP hD hS hA [] rfl rfl rfl hl.1 rfl (Nat.le_of_ble_eq_true rfl) dX5_bestWith_13 ⟨Nat.le_of_ble_eq_true rfl, Nat.le_of_ble_eq_true rfl⟩) hP hD hS hA [] rfl (fun r2 u H locs hw hP hS => ?_)
  try dsimp only at hw
  refine lv_iconst (v := -1) hx hb dX5_bestWith_16 (by decide) ?_
  refine lv_ixor hx hb dX5_bestWith_17 ?_
  refine lv_iand hx hb dX5_bestWith_18 ?_
  refine lv_aload_n hx hb dX5_bestWith_19 rfl (lv_at hl 0 rfl) ?_
  refine va_get (D := gD G) (ci := 5) (v := .ref qd) (C := RX5) (T := TX5) (N := 7) hx hb hts k_X5_bestWith_inX5 hown hK hP 0 rfl rfl 0 (by decide) (hts _ k_X5_bestWith_f10) (fun _ h9 => h9) rfl dX5_bestWith_20 ?_
  refine lv_iload_n hx hb dX5_bestWith_23 rfl (lv_at hl 1 rfl) ?_
  refine kcR_i (kr_V [.int (r1 &&& (r2 ^^^ (-1 : Int32)))] ⟨hx, hb, hml, hown, hts⟩ (cn_X1_conflictsWith l G qd qdb qde qdf db de df dc dp dk a1 hw H.size) (cwV 1 hts gX5_bestWith_X1_conflictsWith rfl rfl rfl (by decide +kernel) ⟨Nat.le_of_ble_eq_true rfl, Nat.le_of_ble_eq_true rfl⟩) hK hG hP hD hS hA [1, 2, 3, 4] rfl rfl 1 1 rfl rfl rfl hl.1 rfl (Nat.le_of_ble_eq_true rfl) dX5_bestWith_24 ⟨Nat.le_of_ble_eq_true rfl, Nat.le_of_ble_eq_true rfl⟩) hP hD hS hA [1, 2, 3, 4] rfl (fun r3 u H locs hw hP hS => ?_)
  try dsimp only at hw
  refine lv_iconst (v := -1) hx hb dX5_bestWith_27 (by decide) ?_
  refine lv_ixor hx hb dX5_bestWith_28 ?_
  refine lv_iand hx hb dX5_bestWith_29 ?_
  refine lv_istore_n (lv' := [(2, .int ((r1 &&& (r2 ^^^ (-1 : Int32))) &&& (r3 ^^^ (-1 : Int32)))), (0, .ref qm), (1, .int a1)]) hx hb dX5_bestWith_30 rfl hl (by decide) rfl (fun ls hl => ?_)
  refine lv_aload_n hx hb dX5_bestWith_31 rfl (lv_at hl 1 rfl) ?_
  refine va_get (D := gD G) (ci := 5) (v := .ref qd) (C := RX5) (T := TX5) (N := 7) hx hb hts k_X5_bestWith_inX5 hown hK hP 0 rfl rfl 0 (by decide) (hts _ k_X5_bestWith_f10) (fun _ h9 => h9) rfl dX5_bestWith_32 ?_
  refine va_get (D := gD G) (ci := 1) (v := .ref qdf) (C := RX1) (T := TX1) (N := 6) hx hb hts k_X5_bestWith_inX1 hown hK hP 1 rfl rfl 2 (by decide) (hts _ k_X5_bestWith_f78) (fun _ h9 => h9) rfl dX5_bestWith_35 ?_
  refine lv_iload_n hx hb dX5_bestWith_38 rfl (lv_at hl 2 rfl) ?_
  obtain ⟨h4, hw⟩ := hw
  refine va_iald hx hb hK hP 4 0 rfl rfl h4 dX5_bestWith_39 ?_
  refine lv_aload_n hx hb dX5_bestWith_40 rfl (lv_at hl 1 rfl) ?_
  refine va_get (D := gD G) (ci := 5) (v := .ref qx) (C := RX5) (T := TX5) (N := 7) hx hb hts k_X5_bestWith_inX5 hown hK hP 0 rfl rfl 6 (by decide) (hts _ k_X5_bestWith_f48) (fun _ h9 => h9) rfl dX5_bestWith_41 ?_
  refine lv_aload_n hx hb dX5_bestWith_44 rfl (lv_at hl 1 rfl) ?_
  refine va_get (D := gD G) (ci := 5) (v := .ref qd) (C := RX5) (T := TX5) (N := 7) hx hb hts k_X5_bestWith_inX5 hown hK hP 0 rfl rfl 0 (by decide) (hts _ k_X5_bestWith_f10) (fun _ h9 => h9) rfl dX5_bestWith_45 ?_
  refine lv_iload_n hx hb dX5_bestWith_48 rfl (lv_at hl 0 rfl) ?_
  refine kc_i (kr_V [.int (df a1.toNatClampNeg)] ⟨hx, hb, hml, hown, hts⟩ (cn_X0_fameAmong l G qx qxo qxc qxt qd qdb qde qdf ho hc ht db de df dc dp dk ((r1 &&& (r2 ^^^ (-1 : Int32))) &&& (r3 ^^^ (-1 : Int32))) hw H.size) (cwV 2 hts gX5_bestWith_X0_fameAmong rfl rfl rfl (by decide +kernel) ⟨Nat.le_of_ble_eq_true rfl, Nat.le_of_ble_eq_true rfl⟩) hK hG hP hD hS hA [5, 6, 7, 8, 1, 2, 3, 4] rfl rfl 0 5 rfl rfl rfl hl.1 rfl (Nat.le_of_ble_eq_true rfl) dX5_bestWith_49 ⟨Nat.le_of_ble_eq_true rfl, Nat.le_of_ble_eq_true rfl⟩) hP hD hS hA [5, 6, 7, 8, 1, 2, 3, 4] [0] rfl rfl rfl (by decide) (fun r5 u H locs hw hP hD hS => ?_)
  obtain ⟨ho_6, ht_7⟩ := u
  try dsimp only at hw
  have hP := hP.sub (ws' := (w0_X5_bestWith G qm qd qs qn qk qt qr qx qdb qde qdf qxo qxc qxt db de df dc dp dk ho_6 hc ht_7)) [0, 5, 6, 7, 8, 1, 2, 3, 4] rfl
  have hD := hD.sub (ws' := (w0_X5_bestWith G qm qd qs qn qk qt qr qx qdb qde qdf qxo qxc qxt db de df dc dp dk ho_6 hc ht_7)) [0, 5, 6, 7, 8, 1, 2, 3, 4] rfl rfl
  refine lv_iadd hx hb dX5_bestWith_52 ?_
  exact fin_i (ho_6, ht_7) hx hb hr hlocks hK hS hP hD hw dX5_bestWith_53

abbrev w0_X5_mixRehearsal (G : mG) (qm : Nat) (qd : Nat) (qs : Nat) (qn : Nat) (qk : Nat) (qt : Nat) (qr : Nat) (qx : Nat) (qdb : Nat) (qde : Nat) (qdf : Nat) (qro : Nat) (qrg : Nat) (qxo : Nat) (qxc : Nat) (qxt : Nat) (db : Nat → Int32) (de : Nat → Int32) (df : Nat → Int32) (dc : Int32) (dp : Int32) (dk : Int32) (ro : Nat → Int32) (rg : Nat → Int32) (ho : Nat → Int32) (hc : Nat → Int32) (ht : Nat → Int32) : va_W := [(qm, .inr (5, [.ref qd, .ref qs, .ref qn, .ref qk, .ref qt, .ref qr, .ref qx])), (qd, .inr (1, [.ref qdb, .ref qde, .ref qdf, .int dc, .int dp, .int dk])), (qdb, .inl (gI G, (14, .inl db))), (qde, .inl (gI G, (14, .inl de))), (qdf, .inl (gI G, (14, .inl df))), (qr, .inr (2, [.ref qro, .ref qrg])), (qro, .inl (gI G, (14, .inl ro))), (qrg, .inl (gI G, (14, .inl rg))), (qx, .inr (0, [.ref qxo, .ref qxc, .ref qxt])), (qxo, .inl (gI G, (14, .inl ho))), (qxc, .inl (gI G, (14, .inl hc))), (qxt, .inl (gI G, (15, .inl ht)))]
set_option maxHeartbeats 8000000 in
set_option maxRecDepth 100000 in
theorem cn_X5_mixRehearsal (l : Launch) (G : mG) (qm : Nat) (qd : Nat) (qs : Nat) (qn : Nat) (qk : Nat) (qt : Nat) (qr : Nat) (qx : Nat) (qdb : Nat) (qde : Nat) (qdf : Nat) (qro : Nat) (qrg : Nat) (qxo : Nat) (qxc : Nat) (qxt : Nat) (db : Nat → Int32) (de : Nat → Int32) (df : Nat → Int32) (dc : Int32) (dp : Int32) (dk : Int32) (ro : Nat → Int32) (rg : Nat → Int32) (ho : Nat → Int32) (hc : Nat → Int32) (ht : Nat → Int32) (a1 : Int64) (a3 : Int32) {Q : Int64 → (Nat → Int32) → (Nat → Int32) → (Nat → Int32) → (Nat → Int32) → Prop} (hw : wn_X5_mixRehearsal db de df dc dp dk ro rg ho ht a1 a3 Q) (sz : Nat) :
    Met l yX5_mixRehearsal wsX5_mixRehearsal ({ frames := 6, cells := 0, slots := 0, locals := 135 } : Room) (va_Pc [.ref qm, .long a1, .int a3] (mPre G (w0_X5_mixRehearsal G qm qd qs qn qk qt qr qx qdb qde qdf qro qrg qxo qxc qxt db de df dc dp dk ro rg ho hc ht) sz)) (va_Ql (fun (r : Int64) (u : (Nat → Int32) × (Nat → Int32) × (Nat → Int32) × (Nat → Int32)) => Q r u.1 u.2.1 u.2.2.1 u.2.2.2) (mBk G (va_A (w0_X5_mixRehearsal G qm qd qs qn qk qt qr qx qdb qde qdf qro qrg qxo qxc qxt db de df dc dp dk ro rg ho hc ht) sz) (fun (u : (Nat → Int32) × (Nat → Int32) × (Nat → Int32) × (Nat → Int32)) => (w0_X5_mixRehearsal G qm qd qs qn qk qt qr qx qdb qde qdf qro qrg qxo qxc qxt db de df dc dp dk u.1 u.2.1 u.2.2.1 hc u.2.2.2))) (va_A (w0_X5_mixRehearsal G qm qd qs qn qk qt qr qx qdb qde qdf qro qrg qxo qxc qxt db de df dc dp dk ro rg ho hc ht) sz)) 0 0 (va_A (w0_X5_mixRehearsal G qm qd qs qn qk qt qr qx qdb qde qdf qro qrg qxo qxc qxt db de df dc dp dk ro rg ho hc ht) sz) := by
  refine ms_l (cc := cX5_mixRehearsal) (maxL := 6) (ret := some .long) (post := (fun (r : Int64) (u : (Nat → Int32) × (Nat → Int32) × (Nat → Int32) × (Nat → Int32)) => Q r u.1 u.2.1 u.2.2.1 u.2.2.2)) (w1 := (fun (u : (Nat → Int32) × (Nat → Int32) × (Nat → Int32) × (Nat → Int32)) => (w0_X5_mixRehearsal G qm qd qs qn qk qt qr qx qdb qde qdf qro qrg qxo qxc qxt db de df dc dp dk u.1 u.2.1 u.2.2.1 hc u.2.2.2))) (by decide) rfl (Nat.le_of_ble_eq_true rfl) ?_ sz
  intro p e s m below meth c A ls H locs hx hb hr hml hown hts hlocks hK hG hP hD hS hA hl
  have hown : s.vm.findClass RX5 = some m.cls := hown
  have hl : lv_has ls 6 [(0, .ref qm), (1, .long a1), (3, .int a3)] := hl
  have J68 : ∀ (ro : Nat → Int32) (rg : Nat → Int32) (ho : Nat → Int32) (ht : Nat → Int32) (x1 : Int64) (x3 : Int32) (x4 : Int64) (y0 : Int64) (y1 : Int64) (H : Heap) (locs : List Loc) (ls : Array Slot), va_P (gD G) vwCl (w0_X5_mixRehearsal G qm qd qs qn qk qt qr qx qdb qde qdf qro qrg qxo qxc qxt db de df dc dp dk ro rg ho hc ht) H → va_D A (w0_X5_mixRehearsal G qm qd qs qn qk qt qr qx qdb qde qdf qro qrg qxo qxc qxt db de df dc dp dk ro rg ho hc ht) → va_S A s.heap H locs → lv_has ls 6 [(0, .ref qm), (1, .long x1), (3, .int x3), (4, .long x4)] → wj_n_X5_mixRehearsal_68 db de df dc dp dk Q ro rg ho ht x1 x3 x4 y0 y1 → W p l e ({ frames := 6, cells := 0, slots := 0, locals := 135 } : Room) s m ([.ref qm, .long a1, .int a3] : List Value).toArray below meth c H locs 0 0 (MQ below (va_Ql (fun (r : Int64) (u : (Nat → Int32) × (Nat → Int32) × (Nat → Int32) × (Nat → Int32)) => Q r u.1 u.2.1 u.2.2.1 u.2.2.2) (mBk G A (fun (u : (Nat → Int32) × (Nat → Int32) × (Nat → Int32) × (Nat → Int32)) => (w0_X5_mixRehearsal G qm qd qs qn qk qt qr qx qdb qde qdf qro qrg qxo qxc qxt db de df dc dp dk u.1 u.2.1 u.2.2.1 hc u.2.2.2))) A) ([.ref qm, .long a1, .int a3] : List Value).toArray s 0 0 A) (F0 m 68 ls [.long y1, .long y0]) := by
    intro ro rg ho ht x1 x3 x4 y0 y1 H locs ls hP hD hS hl hw
    unfold wj_n_X5_mixRehearsal_68 at hw
    refine kcR_l (kr_S [] ⟨hx, hb, hml, hown, hts⟩ (cn_X5_mix l G y0 y1 hw H.size) (va_cwS 2 hts gX5_mixRehearsal_X5_mix rfl rfl rfl (by decide +kernel) ⟨Nat.le_of_ble_eq_true rfl, Nat.le_of_ble_eq_true rfl⟩) hK hG hP hD hS hA [] rfl rfl rfl hl.1 rfl (Nat.le_of_ble_eq_true rfl) dX5_mixRehearsal_68 ⟨Nat.le_of_ble_eq_true rfl, Nat.le_of_ble_eq_true rfl⟩) hP hD hS hA [] rfl (fun r12 u H locs hw hP hS => ?_)
    try dsimp only at hw
    refine lv_lstore (lv' := [(4, .long r12), (0, .ref qm), (1, .long x1), (3, .int x3)]) hx hb dX5_mixRehearsal_71 hl (by decide) rfl (fun ls hl => ?_)
    refine lv_lload hx hb dX5_mixRehearsal_73 (lv_at hl 0 rfl) ?_
    refine lv_aload_n hx hb dX5_mixRehearsal_75 rfl (lv_at hl 1 rfl) ?_
    refine lv_iload_n hx hb dX5_mixRehearsal_76 rfl (lv_at hl 3 rfl) ?_
    refine kcR_i (kr_V [.long r12] ⟨hx, hb, hml, hown, hts⟩ (cn_X5_conflictsOf l G qm qd qs qn qk qt qr qx qdb qde qdf db de df dc dp dk x3 hw H.size) (cwV 1 hts gX5_mixRehearsal_X5_conflictsOf rfl rfl rfl (by decide +kernel) ⟨Nat.le_of_ble_eq_true rfl, Nat.le_of_ble_eq_true rfl⟩) hK hG hP hD hS hA [0, 1, 2, 3, 4] rfl rfl 5 0 rfl rfl rfl hl.1 rfl (Nat.le_of_ble_eq_true rfl) dX5_mixRehearsal_77 ⟨Nat.le_of_ble_eq_true rfl, Nat.le_of_ble_eq_true rfl⟩) hP hD hS hA [0, 1, 2, 3, 4] rfl (fun r13 u H locs hw hP hS => ?_)
    try dsimp only at hw
    refine lv_i2l hx hb dX5_mixRehearsal_80 rfl ?_
    refine kcR_l (kr_S [] ⟨hx, hb, hml, hown, hts⟩ (cn_X5_mix l G r12 r13.toInt64 hw H.size) (va_cwS 2 hts gX5_mixRehearsal_X5_mix rfl rfl rfl (by decide +kernel) ⟨Nat.le_of_ble_eq_true rfl, Nat.le_of_ble_eq_true rfl⟩) hK hG hP hD hS hA [] rfl rfl rfl hl.1 rfl (Nat.le_of_ble_eq_true rfl) dX5_mixRehearsal_81 ⟨Nat.le_of_ble_eq_true rfl, Nat.le_of_ble_eq_true rfl⟩) hP hD hS hA [] rfl (fun r14 u H locs hw hP hS => ?_)
    try dsimp only at hw
    refine lv_lstore (lv' := [(4, .long r14), (0, .ref qm), (1, .long x1), (3, .int x3)]) hx hb dX5_mixRehearsal_84 hl (by decide) rfl (fun ls hl => ?_)
    refine lv_lload hx hb dX5_mixRehearsal_86 (lv_at hl 0 rfl) ?_
    refine lv_aload_n hx hb dX5_mixRehearsal_88 rfl (lv_at hl 1 rfl) ?_
    refine lv_iload_n hx hb dX5_mixRehearsal_89 rfl (lv_at hl 3 rfl) ?_
    refine kc_i (kr_V [.long r14] ⟨hx, hb, hml, hown, hts⟩ (cn_X5_roomOf l G qm qd qs qn qk qt qr qx qdb qde qdf qro qrg db de df dc dp dk ro rg x3 hw H.size) (cwV 1 hts gX5_mixRehearsal_X5_roomOf rfl rfl rfl (by decide +kernel) ⟨Nat.le_of_ble_eq_true rfl, Nat.le_of_ble_eq_true rfl⟩) hK hG hP hD hS hA [0, 1, 2, 3, 4, 5, 6, 7] rfl rfl 5 0 rfl rfl rfl hl.1 rfl (Nat.le_of_ble_eq_true rfl) dX5_mixRehearsal_90 ⟨Nat.le_of_ble_eq_true rfl, Nat.le_of_ble_eq_true rfl⟩) hP hD hS hA [0, 1, 2, 3, 4, 5, 6, 7] [8, 9, 10, 11] rfl rfl rfl (by decide) (fun r15 u H locs hw hP hD hS => ?_)
    obtain ⟨ro_16, rg_17⟩ := u
    try dsimp only at hw
    have hP := hP.sub (ws' := (w0_X5_mixRehearsal G qm qd qs qn qk qt qr qx qdb qde qdf qro qrg qxo qxc qxt db de df dc dp dk ro_16 rg_17 ho hc ht)) [4, 5, 6, 7, 8, 9, 10, 11, 0, 1, 2, 3] rfl
    have hD := hD.sub (ws' := (w0_X5_mixRehearsal G qm qd qs qn qk qt qr qx qdb qde qdf qro qrg qxo qxc qxt db de df dc dp dk ro_16 rg_17 ho hc ht)) [4, 5, 6, 7, 8, 9, 10, 11, 0, 1, 2, 3] rfl rfl
    refine lv_i2l hx hb dX5_mixRehearsal_93 rfl ?_
    refine kcR_l (kr_S [] ⟨hx, hb, hml, hown, hts⟩ (cn_X5_mix l G r14 r15.toInt64 hw H.size) (va_cwS 2 hts gX5_mixRehearsal_X5_mix rfl rfl rfl (by decide +kernel) ⟨Nat.le_of_ble_eq_true rfl, Nat.le_of_ble_eq_true rfl⟩) hK hG hP hD hS hA [] rfl rfl rfl hl.1 rfl (Nat.le_of_ble_eq_true rfl) dX5_mixRehearsal_94 ⟨Nat.le_of_ble_eq_true rfl, Nat.le_of_ble_eq_true rfl⟩) hP hD hS hA [] rfl (fun r18 u H locs hw hP hS => ?_)
    try dsimp only at hw
    refine lv_lstore (lv' := [(4, .long r18), (0, .ref qm), (1, .long x1), (3, .int x3)]) hx hb dX5_mixRehearsal_97 hl (by decide) rfl (fun ls hl => ?_)
    refine lv_lload hx hb dX5_mixRehearsal_99 (lv_at hl 0 rfl) ?_
    refine lv_aload_n hx hb dX5_mixRehearsal_101 rfl (lv_at hl 1 rfl) ?_
    refine lv_iload_n hx hb dX5_mixRehearsal_102 rfl (lv_at hl 3 rfl) ?_
    refine kc_i (kr_V [.long r18] ⟨hx, hb, hml, hown, hts⟩ (cn_X5_bestWith l G qm qd qs qn qk qt qr qx qdb qde qdf qxo qxc qxt db de df dc dp dk ho hc ht x3 hw H.size) (cwV 1 hts gX5_mixRehearsal_X5_bestWith rfl rfl rfl (by decide +kernel) ⟨Nat.le_of_ble_eq_true rfl, Nat.le_of_ble_eq_true rfl⟩) hK hG hP hD hS hA [0, 1, 2, 3, 4, 8, 9, 10, 11] rfl rfl 5 0 rfl rfl rfl hl.1 rfl (Nat.le_of_ble_eq_true rfl) dX5_mixRehearsal_103 ⟨Nat.le_of_ble_eq_true rfl, Nat.le_of_ble_eq_true rfl⟩) hP hD hS hA [0, 1, 2, 3, 4, 8, 9, 10, 11] [5, 6, 7] rfl rfl rfl (by decide) (fun r19 u H locs hw hP hD hS => ?_)
    obtain ⟨ho_20, ht_21⟩ := u
    try dsimp only at hw
    have hP := hP.sub (ws' := (w0_X5_mixRehearsal G qm qd qs qn qk qt qr qx qdb qde qdf qro qrg qxo qxc qxt db de df dc dp dk ro_16 rg_17 ho_20 hc ht_21)) [3, 4, 5, 6, 7, 0, 1, 2, 8, 9, 10, 11] rfl
    have hD := hD.sub (ws' := (w0_X5_mixRehearsal G qm qd qs qn qk qt qr qx qdb qde qdf qro qrg qxo qxc qxt db de df dc dp dk ro_16 rg_17 ho_20 hc ht_21)) [3, 4, 5, 6, 7, 0, 1, 2, 8, 9, 10, 11] rfl rfl
    refine lv_i2l hx hb dX5_mixRehearsal_106 rfl ?_
    refine kcR_l (kr_S [] ⟨hx, hb, hml, hown, hts⟩ (cn_X5_mix l G r18 r19.toInt64 hw H.size) (va_cwS 2 hts gX5_mixRehearsal_X5_mix rfl rfl rfl (by decide +kernel) ⟨Nat.le_of_ble_eq_true rfl, Nat.le_of_ble_eq_true rfl⟩) hK hG hP hD hS hA [] rfl rfl rfl hl.1 rfl (Nat.le_of_ble_eq_true rfl) dX5_mixRehearsal_107 ⟨Nat.le_of_ble_eq_true rfl, Nat.le_of_ble_eq_true rfl⟩) hP hD hS hA [] rfl (fun r22 u H locs hw hP hS => ?_)
    try dsimp only at hw
    exact fin_l (ro_16, rg_17, ho_20, ht_21) hx hb hr hlocks hK hS hP hD hw dX5_mixRehearsal_110
  unfold wn_X5_mixRehearsal at hw
  refine lv_lload_n hx hb dX5_mixRehearsal_0 rfl (lv_at hl 1 rfl) ?_
  refine lv_aload_n hx hb dX5_mixRehearsal_1 rfl (lv_at hl 0 rfl) ?_
  refine lv_iload_n hx hb dX5_mixRehearsal_2 rfl (lv_at hl 2 rfl) ?_
  refine kcR_i (kr_V [.long a1] ⟨hx, hb, hml, hown, hts⟩ (cn_X5_beginOf l G qm qd qs qn qk qt qr qx qdb qde qdf db de df dc dp dk a3 hw H.size) (cwV 1 hts gX5_mixRehearsal_X5_beginOf rfl rfl rfl (by decide +kernel) ⟨Nat.le_of_ble_eq_true rfl, Nat.le_of_ble_eq_true rfl⟩) hK hG hP hD hS hA [0, 1, 2, 3, 4] rfl rfl 5 0 rfl rfl rfl hl.1 rfl (Nat.le_of_ble_eq_true rfl) dX5_mixRehearsal_3 ⟨Nat.le_of_ble_eq_true rfl, Nat.le_of_ble_eq_true rfl⟩) hP hD hS hA [0, 1, 2, 3, 4] rfl (fun r1 u H locs hw hP hS => ?_)
  try dsimp only at hw
  refine lv_i2l hx hb dX5_mixRehearsal_6 rfl ?_
  refine kcR_l (kr_S [] ⟨hx, hb, hml, hown, hts⟩ (cn_X5_mix l G a1 r1.toInt64 hw H.size) (va_cwS 2 hts gX5_mixRehearsal_X5_mix rfl rfl rfl (by decide +kernel) ⟨Nat.le_of_ble_eq_true rfl, Nat.le_of_ble_eq_true rfl⟩) hK hG hP hD hS hA [] rfl rfl rfl hl.1 rfl (Nat.le_of_ble_eq_true rfl) dX5_mixRehearsal_7 ⟨Nat.le_of_ble_eq_true rfl, Nat.le_of_ble_eq_true rfl⟩) hP hD hS hA [] rfl (fun r2 u H locs hw hP hS => ?_)
  try dsimp only at hw
  refine lv_lstore (lv' := [(4, .long r2), (0, .ref qm), (1, .long a1), (3, .int a3)]) hx hb dX5_mixRehearsal_10 hl (by decide) rfl (fun ls hl => ?_)
  refine lv_lload hx hb dX5_mixRehearsal_12 (lv_at hl 0 rfl) ?_
  refine lv_aload_n hx hb dX5_mixRehearsal_14 rfl (lv_at hl 1 rfl) ?_
  refine lv_iload_n hx hb dX5_mixRehearsal_15 rfl (lv_at hl 3 rfl) ?_
  refine kcR_i (kr_V [.long r2] ⟨hx, hb, hml, hown, hts⟩ (cn_X5_endOf l G qm qd qs qn qk qt qr qx qdb qde qdf db de df dc dp dk a3 hw H.size) (cwV 1 hts gX5_mixRehearsal_X5_endOf rfl rfl rfl (by decide +kernel) ⟨Nat.le_of_ble_eq_true rfl, Nat.le_of_ble_eq_true rfl⟩) hK hG hP hD hS hA [0, 1, 2, 3, 4] rfl rfl 5 0 rfl rfl rfl hl.1 rfl (Nat.le_of_ble_eq_true rfl) dX5_mixRehearsal_16 ⟨Nat.le_of_ble_eq_true rfl, Nat.le_of_ble_eq_true rfl⟩) hP hD hS hA [0, 1, 2, 3, 4] rfl (fun r3 u H locs hw hP hS => ?_)
  try dsimp only at hw
  refine lv_i2l hx hb dX5_mixRehearsal_19 rfl ?_
  refine kcR_l (kr_S [] ⟨hx, hb, hml, hown, hts⟩ (cn_X5_mix l G r2 r3.toInt64 hw H.size) (va_cwS 2 hts gX5_mixRehearsal_X5_mix rfl rfl rfl (by decide +kernel) ⟨Nat.le_of_ble_eq_true rfl, Nat.le_of_ble_eq_true rfl⟩) hK hG hP hD hS hA [] rfl rfl rfl hl.1 rfl (Nat.le_of_ble_eq_true rfl) dX5_mixRehearsal_20 ⟨Nat.le_of_ble_eq_true rfl, Nat.le_of_ble_eq_true rfl⟩) hP hD hS hA [] rfl (fun r4 u H locs hw hP hS => ?_)
  try dsimp only at hw
  refine lv_lstore (lv' := [(4, .long r4), (0, .ref qm), (1, .long a1), (3, .int a3)]) hx hb dX5_mixRehearsal_23 hl (by decide) rfl (fun ls hl => ?_)
  refine lv_lload hx hb dX5_mixRehearsal_25 (lv_at hl 0 rfl) ?_
  refine lv_aload_n hx hb dX5_mixRehearsal_27 rfl (lv_at hl 1 rfl) ?_
  refine lv_iload_n hx hb dX5_mixRehearsal_28 rfl (lv_at hl 3 rfl) ?_
  refine kcR_i (kr_V [.long r4] ⟨hx, hb, hml, hown, hts⟩ (cn_X5_fameOf l G qm qd qs qn qk qt qr qx qdb qde qdf db de df dc dp dk a3 hw H.size) (cwV 1 hts gX5_mixRehearsal_X5_fameOf rfl rfl rfl (by decide +kernel) ⟨Nat.le_of_ble_eq_true rfl, Nat.le_of_ble_eq_true rfl⟩) hK hG hP hD hS hA [0, 1, 2, 3, 4] rfl rfl 5 0 rfl rfl rfl hl.1 rfl (Nat.le_of_ble_eq_true rfl) dX5_mixRehearsal_29 ⟨Nat.le_of_ble_eq_true rfl, Nat.le_of_ble_eq_true rfl⟩) hP hD hS hA [0, 1, 2, 3, 4] rfl (fun r5 u H locs hw hP hS => ?_)
  try dsimp only at hw
  refine lv_i2l hx hb dX5_mixRehearsal_32 rfl ?_
  refine kcR_l (kr_S [] ⟨hx, hb, hml, hown, hts⟩ (cn_X5_mix l G r4 r5.toInt64 hw H.size) (va_cwS 2 hts gX5_mixRehearsal_X5_mix rfl rfl rfl (by decide +kernel) ⟨Nat.le_of_ble_eq_true rfl, Nat.le_of_ble_eq_true rfl⟩) hK hG hP hD hS hA [] rfl rfl rfl hl.1 rfl (Nat.le_of_ble_eq_true rfl) dX5_mixRehearsal_33 ⟨Nat.le_of_ble_eq_true rfl, Nat.le_of_ble_eq_true rfl⟩) hP hD hS hA [] rfl (fun r6 u H locs hw hP hS => ?_)
  try dsimp only at hw
  refine lv_lstore (lv' := [(4, .long r6), (0, .ref qm), (1, .long a1), (3, .int a3)]) hx hb dX5_mixRehearsal_36 hl (by decide) rfl (fun ls hl => ?_)
  refine lv_lload hx hb dX5_mixRehearsal_38 (lv_at hl 0 rfl) ?_
  refine lv_aload_n hx hb dX5_mixRehearsal_40 rfl (lv_at hl 1 rfl) ?_
  refine lv_iload_n hx hb dX5_mixRehearsal_41 rfl (lv_at hl 3 rfl) ?_
  refine kcR_f (kr_V [.long r6] ⟨hx, hb, hml, hown, hts⟩ (cn_X5_famePerQuarter l G qm qd qs qn qk qt qr qx qdb qde qdf db de df dc dp dk a3 hw H.size) (cwV 1 hts gX5_mixRehearsal_X5_famePerQuarter rfl rfl rfl (by decide +kernel) ⟨Nat.le_of_ble_eq_true rfl, Nat.le_of_ble_eq_true rfl⟩) hK hG hP hD hS hA [0, 1, 2, 3, 4] rfl rfl 5 0 rfl rfl rfl hl.1 rfl (Nat.le_of_ble_eq_true rfl) dX5_mixRehearsal_42 ⟨Nat.le_of_ble_eq_true rfl, Nat.le_of_ble_eq_true rfl⟩) hP hD hS hA [0, 1, 2, 3, 4] rfl (fun r7 u H locs hw hP hS => ?_)
  try dsimp only at hw
  refine kcR_l (kr_S [.long r6] ⟨hx, hb, hml, hown, hts⟩ (cn_X5_floatBits l G r7 hw H.size) (va_cwS 1 hts gX5_mixRehearsal_X5_floatBits rfl rfl rfl (by decide +kernel) ⟨Nat.le_of_ble_eq_true rfl, Nat.le_of_ble_eq_true rfl⟩) hK hG hP hD hS hA [] rfl rfl rfl hl.1 rfl (Nat.le_of_ble_eq_true rfl) dX5_mixRehearsal_45 ⟨Nat.le_of_ble_eq_true rfl, Nat.le_of_ble_eq_true rfl⟩) hP hD hS hA [] rfl (fun r8 u H locs hw hP hS => ?_)
  try dsimp only at hw
  refine kcR_l (kr_S [] ⟨hx, hb, hml, hown, hts⟩ (cn_X5_mix l G r6 r8 hw H.size) (va_cwS 2 hts gX5_mixRehearsal_X5_mix rfl rfl rfl (by decide +kernel) ⟨Nat.le_of_ble_eq_true rfl, Nat.le_of_ble_eq_true rfl⟩) hK hG hP hD hS hA [] rfl rfl rfl hl.1 rfl (Nat.le_of_ble_eq_true rfl) dX5_mixRehearsal_48 ⟨Nat.le_of_ble_eq_true rfl, Nat.le_of_ble_eq_true rfl⟩) hP hD hS hA [] rfl (fun r9 u H locs hw hP hS => ?_)
  try dsimp only at hw
  refine lv_lstore (lv' := [(4, .long r9), (0, .ref qm), (1, .long a1), (3, .int a3)]) hx hb dX5_mixRehearsal_51 hl (by decide) rfl (fun ls hl => ?_)
  refine lv_lload hx hb dX5_mixRehearsal_53 (lv_at hl 0 rfl) ?_
  refine lv_aload_n hx hb dX5_mixRehearsal_55 rfl (lv_at hl 1 rfl) ?_
  refine lv_iload_n hx hb dX5_mixRehearsal_56 rfl (lv_at hl 3 rfl) ?_
  refine kcR_i (kr_V [.long r9] ⟨hx, hb, hml, hown, hts⟩ (cn_X5_isBooked l G qm qd qs qn qk qt qr qx qdb qde qdf db de df dc dp dk a3 hw H.size) (cwV 1 hts gX5_mixRehearsal_X5_isBooked rfl rfl rfl (by decide +kernel) ⟨Nat.le_of_ble_eq_true rfl, Nat.le_of_ble_eq_true rfl⟩) hK hG hP hD hS hA [0, 1, 2, 3, 4] rfl rfl 5 0 rfl rfl rfl hl.1 rfl (Nat.le_of_ble_eq_true rfl) dX5_mixRehearsal_57 ⟨Nat.le_of_ble_eq_true rfl, Nat.le_of_ble_eq_true rfl⟩) hP hD hS hA [0, 1, 2, 3, 4] rfl (fun r10 u H locs hw hP hS => ?_)
  try dsimp only at hw
  obtain ⟨hz_r10, hw⟩ := hw
  refine lv_if_eq (tgt := 67) hx hb dX5_mixRehearsal_60 (by decide) (fun cd11 => ?_) (fun cd11 => ?_)
  · have hw := hw.1 cd11
    refine lv_lconst (v := 0) hx hb dX5_mixRehearsal_67 (by decide) ?_
    exact J68 ro rg ho ht a1 a3 r9 r9 (0 : Int64) _ _ _ hP hD hS (lv_sub hl [1, 2, 3, 0] rfl) hw
  · have hw := hw.2 cd11
    refine lv_lconst (v := 1) hx hb dX5_mixRehearsal_63 (by decide) ?_
    refine lv_goto (tgt := 68) hx hb dX5_mixRehearsal_64 (by decide) ?_
    exact J68 ro rg ho ht a1 a3 r9 r9 (1 : Int64) _ _ _ hP hD hS (lv_sub hl [1, 2, 3, 0] rfl) hw

abbrev w0_X5_digest (G : mG) (qm : Nat) (qd : Nat) (qs : Nat) (qn : Nat) (qk : Nat) (qt : Nat) (qr : Nat) (qx : Nat) (qdb : Nat) (qde : Nat) (qdf : Nat) (qsa : Nat) (qs0 : Nat) (qs0b : Nat) (qs0e : Nat) (qs0f : Nat) (qs1 : Nat) (qs1b : Nat) (qs1e : Nat) (qs1f : Nat) (qs2 : Nat) (qs2b : Nat) (qs2e : Nat) (qs2f : Nat) (qs3 : Nat) (qs3b : Nat) (qs3e : Nat) (qs3f : Nat) (qs4 : Nat) (qs4b : Nat) (qs4e : Nat) (qs4f : Nat) (qs5 : Nat) (qs5b : Nat) (qs5e : Nat) (qs5f : Nat) (qtc : Nat) (qtn : Nat) (qro : Nat) (qrg : Nat) (qxo : Nat) (qxc : Nat) (qxt : Nat) (db : Nat → Int32) (de : Nat → Int32) (df : Nat → Int32) (dc : Int32) (dp : Int32) (dk : Int32) (so : Int32) (sn : Int32) (sb : Nat → Nat → Int32) (se : Nat → Nat → Int32) (sf : Nat → Nat → Int32) (sc : Nat → Int32) (sp : Nat → Int32) (sk : Nat → Int32) (tk : Nat → Int32) (tc : Nat → Int32) (tl : Int32) (tn : Nat → Int32) (tf : Int32) (tv : Int32) (ro : Nat → Int32) (rg : Nat → Int32) (ho : Nat → Int32) (hc : Nat → Int32) (ht : Nat → Int32) : va_W := [(qm, .inr (5, [.ref qd, .ref qs, .ref qn, .ref qk, .ref qt, .ref qr, .ref qx])), (qd, .inr (1, [.ref qdb, .ref qde, .ref qdf, .int dc, .int dp, .int dk])), (qdb, .inl (gI G, (14, .inl db))), (qde, .inl (gI G, (14, .inl de))), (qdf, .inl (gI G, (14, .inl df))), (qs, .inr (3, [.ref qsa, .int so, .int sn])), (qsa, .inl (gQ G, (6, .inr (.inr (.inr (.inr (g6 qs0 qs1 qs2 qs3 qs4 qs5))))))), (qs0, .inr (1, [.ref qs0b, .ref qs0e, .ref qs0f, .int (sc 0), .int (sp 0), .int (sk 0)])), (qs0b, .inl (gI G, (14, .inl (sb 0)))), (qs0e, .inl (gI G, (14, .inl (se 0)))), (qs0f, .inl (gI G, (14, .inl (sf 0)))), (qs1, .inr (1, [.ref qs1b, .ref qs1e, .ref qs1f, .int (sc 1), .int (sp 1), .int (sk 1)])), (qs1b, .inl (gI G, (14, .inl (sb 1)))), (qs1e, .inl (gI G, (14, .inl (se 1)))), (qs1f, .inl (gI G, (14, .inl (sf 1)))), (qs2, .inr (1, [.ref qs2b, .ref qs2e, .ref qs2f, .int (sc 2), .int (sp 2), .int (sk 2)])), (qs2b, .inl (gI G, (14, .inl (sb 2)))), (qs2e, .inl (gI G, (14, .inl (se 2)))), (qs2f, .inl (gI G, (14, .inl (sf 2)))), (qs3, .inr (1, [.ref qs3b, .ref qs3e, .ref qs3f, .int (sc 3), .int (sp 3), .int (sk 3)])), (qs3b, .inl (gI G, (14, .inl (sb 3)))), (qs3e, .inl (gI G, (14, .inl (se 3)))), (qs3f, .inl (gI G, (14, .inl (sf 3)))), (qs4, .inr (1, [.ref qs4b, .ref qs4e, .ref qs4f, .int (sc 4), .int (sp 4), .int (sk 4)])), (qs4b, .inl (gI G, (14, .inl (sb 4)))), (qs4e, .inl (gI G, (14, .inl (se 4)))), (qs4f, .inl (gI G, (14, .inl (sf 4)))), (qs5, .inr (1, [.ref qs5b, .ref qs5e, .ref qs5f, .int (sc 5), .int (sp 5), .int (sk 5)])), (qs5b, .inl (gI G, (14, .inl (sb 5)))), (qs5e, .inl (gI G, (14, .inl (se 5)))), (qs5f, .inl (gI G, (14, .inl (sf 5)))), (qk, .inl (gZ G, (2, .inl tk))), (qt, .inr (4, [.ref qtc, .int tl, .ref qtn, .int tf, .int tv])), (qtc, .inl (gI G, (60, .inl tc))), (qtn, .inl (gI G, (60, .inl tn))), (qr, .inr (2, [.ref qro, .ref qrg])), (qro, .inl (gI G, (14, .inl ro))), (qrg, .inl (gI G, (14, .inl rg))), (qx, .inr (0, [.ref qxo, .ref qxc, .ref qxt])), (qxo, .inl (gI G, (14, .inl ho))), (qxc, .inl (gI G, (14, .inl hc))), (qxt, .inl (gI G, (15, .inl ht)))]
set_option maxRecDepth 100000 in
theorem k_X5_digest_c231 : Cond.constantLong RX5 231 (4327) ∈ wsX5_digest := by decide +kernel
set_option maxRecDepth 100000 in
theorem k_X5_digest_inX5 : ∀ w ∈ u_ws RX5 TX5 7, w ∈ wsX5_digest := by decide +kernel
set_option maxRecDepth 100000 in
theorem k_X5_digest_f10 : Cond.fieldLink RX5 10 "RehearsalRoom" "day" "LRehearsalRoom$Day;" ∈ wsX5_digest := by decide +kernel
set_option maxRecDepth 100000 in
theorem k_X5_digest_inX1 : ∀ w ∈ u_ws RX1 TX1 6, w ∈ wsX5_digest := by decide +kernel
set_option maxRecDepth 100000 in
theorem k_X5_digest_f71 : Cond.fieldLink RX5 71 "RehearsalRoom$Day" "count" "I" ∈ wsX5_digest := by decide +kernel
set_option maxRecDepth 100000 in
theorem k_X5_digest_f34 : Cond.fieldLink RX5 34 "RehearsalRoom" "buffer" "LRehearsalRoom$Text;" ∈ wsX5_digest := by decide +kernel
set_option maxRecDepth 100000 in
theorem k_X5_digest_inX4 : ∀ w ∈ u_ws RX4 TX4 5, w ∈ wsX5_digest := by decide +kernel
set_option maxRecDepth 100000 in
theorem k_X5_digest_f150 : Cond.fieldLink RX5 150 "RehearsalRoom$Text" "length" "I" ∈ wsX5_digest := by decide +kernel
set_option maxRecDepth 100000 in
theorem k_X5_digest_f248 : Cond.fieldLink RX5 248 "RehearsalRoom$Text" "codes" "[I" ∈ wsX5_digest := by decide +kernel
set_option maxRecDepth 100000 in
theorem k_X5_digest_f27 : Cond.fieldLink RX5 27 "RehearsalRoom" "taken" "[Z" ∈ wsX5_digest := by decide +kernel
set_option maxHeartbeats 8000000 in
set_option maxRecDepth 100000 in
theorem cn_X5_digest (l : Launch) (G : mG) (qm : Nat) (qd : Nat) (qs : Nat) (qn : Nat) (qk : Nat) (qt : Nat) (qr : Nat) (qx : Nat) (qdb : Nat) (qde : Nat) (qdf : Nat) (qsa : Nat) (qs0 : Nat) (qs0b : Nat) (qs0e : Nat) (qs0f : Nat) (qs1 : Nat) (qs1b : Nat) (qs1e : Nat) (qs1f : Nat) (qs2 : Nat) (qs2b : Nat) (qs2e : Nat) (qs2f : Nat) (qs3 : Nat) (qs3b : Nat) (qs3e : Nat) (qs3f : Nat) (qs4 : Nat) (qs4b : Nat) (qs4e : Nat) (qs4f : Nat) (qs5 : Nat) (qs5b : Nat) (qs5e : Nat) (qs5f : Nat) (qtc : Nat) (qtn : Nat) (qro : Nat) (qrg : Nat) (qxo : Nat) (qxc : Nat) (qxt : Nat) (db : Nat → Int32) (de : Nat → Int32) (df : Nat → Int32) (dc : Int32) (dp : Int32) (dk : Int32) (so : Int32) (sn : Int32) (sb : Nat → Nat → Int32) (se : Nat → Nat → Int32) (sf : Nat → Nat → Int32) (sc : Nat → Int32) (sp : Nat → Int32) (sk : Nat → Int32) (tk : Nat → Int32) (tc : Nat → Int32) (tl : Int32) (tn : Nat → Int32) (tf : Int32) (tv : Int32) (ro : Nat → Int32) (rg : Nat → Int32) (ho : Nat → Int32) (hc : Nat → Int32) (ht : Nat → Int32) {Q : Int64 → (Nat → Int32) → (Nat → Int32) → (Nat → Int32) → (Nat → Int32) → (Nat → Int32) → Prop} (hw : wn_X5_digest db de df dc dp dk sn tk tc tl ro rg ho hc ht Q) (sz : Nat) :
    Met l yX5_digest wsX5_digest ({ frames := 22, cells := 0, slots := 0, locals := 568 } : Room) (va_Pc [.ref qm] (mPre G (w0_X5_digest G qm qd qs qn qk qt qr qx qdb qde qdf qsa qs0 qs0b qs0e qs0f qs1 qs1b qs1e qs1f qs2 qs2b qs2e qs2f qs3 qs3b qs3e qs3f qs4 qs4b qs4e qs4f qs5 qs5b qs5e qs5f qtc qtn qro qrg qxo qxc qxt db de df dc dp dk so sn sb se sf sc sp sk tk tc tl tn tf tv ro rg ho hc ht) sz)) (va_Ql (fun (r : Int64) (u : (Nat → Int32) × (Nat → Int32) × (Nat → Int32) × (Nat → Int32) × (Nat → Int32)) => Q r u.1 u.2.1 u.2.2.1 u.2.2.2.1 u.2.2.2.2) (mBk G (va_A (w0_X5_digest G qm qd qs qn qk qt qr qx qdb qde qdf qsa qs0 qs0b qs0e qs0f qs1 qs1b qs1e qs1f qs2 qs2b qs2e qs2f qs3 qs3b qs3e qs3f qs4 qs4b qs4e qs4f qs5 qs5b qs5e qs5f qtc qtn qro qrg qxo qxc qxt db de df dc dp dk so sn sb se sf sc sp sk tk tc tl tn tf tv ro rg ho hc ht) sz) (fun (u : (Nat → Int32) × (Nat → Int32) × (Nat → Int32) × (Nat → Int32) × (Nat → Int32)) => (w0_X5_digest G qm qd qs qn qk qt qr qx qdb qde qdf qsa qs0 qs0b qs0e qs0f qs1 qs1b qs1e qs1f qs2 qs2b qs2e qs2f qs3 qs3b qs3e qs3f qs4 qs4b qs4e qs4f qs5 qs5b qs5e qs5f qtc qtn qro qrg qxo qxc qxt db de df dc dp dk so sn sb se sf sc sp sk tk tc tl tn tf tv u.1 u.2.1 u.2.2.1 u.2.2.2.1 u.2.2.2.2))) (va_A (w0_X5_digest G qm qd qs qn qk qt qr qx qdb qde qdf qsa qs0 qs0b qs0e qs0f qs1 qs1b qs1e qs1f qs2 qs2b qs2e qs2f qs3 qs3b qs3e qs3f qs4 qs4b qs4e qs4f qs5 qs5b qs5e qs5f qtc qtn qro qrg qxo qxc qxt db de df dc dp dk so sn sb se sf sc sp sk tk tc tl tn tf tv ro rg ho hc ht) sz)) 0 0 (va_A (w0_X5_digest G qm qd qs qn qk qt qr qx qdb qde qdf qsa qs0 qs0b qs0e qs0f qs1 qs1b qs1e qs1f qs2 qs2b qs2e qs2f qs3 qs3b qs3e qs3f qs4 qs4b qs4e qs4f qs5 qs5b qs5e qs5f qtc qtn qro qrg qxo qxc qxt db de df dc dp dk so sn sb se sf sc sp sk tk tc tl tn tf tv ro rg ho hc ht) sz) := by
  refine ms_l (cc := cX5_digest) (maxL := 4) (ret := some .long) (post := (fun (r : Int64) (u : (Nat → Int32) × (Nat → Int32) × (Nat → Int32) × (Nat → Int32) × (Nat → Int32)) => Q r u.1 u.2.1 u.2.2.1 u.2.2.2.1 u.2.2.2.2)) (w1 := (fun (u : (Nat → Int32) × (Nat → Int32) × (Nat → Int32) × (Nat → Int32) × (Nat → Int32)) => (w0_X5_digest G qm qd qs qn qk qt qr qx qdb qde qdf qsa qs0 qs0b qs0e qs0f qs1 qs1b qs1e qs1f qs2 qs2b qs2e qs2f qs3 qs3b qs3e qs3f qs4 qs4b qs4e qs4f qs5 qs5b qs5e qs5f qtc qtn qro qrg qxo qxc qxt db de df dc dp dk so sn sb se sf sc sp sk tk tc tl tn tf tv u.1 u.2.1 u.2.2.1 u.2.2.2.1 u.2.2.2.2))) (by decide) rfl (Nat.le_of_ble_eq_true rfl) ?_ sz
  intro p e s m below meth c A ls H locs hx hb hr hml hown hts hlocks hK hG hP hD hS hA hl
  have hown : s.vm.findClass RX5 = some m.cls := hown
  have hl : lv_has ls 4 [(0, .ref qm)] := hl
  have J91 : ∀ (n : Nat) (ro : Nat → Int32) (rg : Nat → Int32) (ho : Nat → Int32) (hc : Nat → Int32) (ht : Nat → Int32) (x1 : Int64) (x3 : Int32) (H : Heap) (locs : List Loc) (ls : Array Slot), va_P (gD G) vwCl (w0_X5_digest G qm qd qs qn qk qt qr qx qdb qde qdf qsa qs0 qs0b qs0e qs0f qs1 qs1b qs1e qs1f qs2 qs2b qs2e qs2f qs3 qs3b qs3e qs3f qs4 qs4b qs4e qs4f qs5 qs5b qs5e qs5f qtc qtn qro qrg qxo qxc qxt db de df dc dp dk so sn sb se sf sc sp sk tk tc tl tn tf tv ro rg ho hc ht) H → va_D A (w0_X5_digest G qm qd qs qn qk qt qr qx qdb qde qdf qsa qs0 qs0b qs0e qs0f qs1 qs1b qs1e qs1f qs2 qs2b qs2e qs2f qs3 qs3b qs3e qs3f qs4 qs4b qs4e qs4f qs5 qs5b qs5e qs5f qtc qtn qro qrg qxo qxc qxt db de df dc dp dk so sn sb se sf sc sp sk tk tc tl tn tf tv ro rg ho hc ht) → va_S A s.heap H locs → lv_has ls 4 [(0, .ref qm), (1, .long x1), (3, .int x3)] → wl_n_X5_digest_91 db de df dc dp dk sn tk tc tl Q n ro rg ho hc ht x1 x3 → W p l e ({ frames := 22, cells := 0, slots := 0, locals := 568 } : Room) s m ([.ref qm] : List Value).toArray below meth c H locs 0 0 (MQ below (va_Ql (fun (r : Int64) (u : (Nat → Int32) × (Nat → Int32) × (Nat → Int32) × (Nat → Int32) × (Nat → Int32)) => Q r u.1 u.2.1 u.2.2.1 u.2.2.2.1 u.2.2.2.2) (mBk G A (fun (u : (Nat → Int32) × (Nat → Int32) × (Nat → Int32) × (Nat → Int32) × (Nat → Int32)) => (w0_X5_digest G qm qd qs qn qk qt qr qx qdb qde qdf qsa qs0 qs0b qs0e qs0f qs1 qs1b qs1e qs1f qs2 qs2b qs2e qs2f qs3 qs3b qs3e qs3f qs4 qs4b qs4e qs4f qs5 qs5b qs5e qs5f qtc qtn qro qrg qxo qxc qxt db de df dc dp dk so sn sb se sf sc sp sk tk tc tl tn tf tv u.1 u.2.1 u.2.2.1 u.2.2.2.1 u.2.2.2.2))) A) ([.ref qm] : List Value).toArray s 0 0 A) (F0 m 91 ls []) := by
    intro n
    induction n with
    | zero => intro ro rg ho hc ht x1 x3 H locs ls hP hD hS hl hw; exact False.elim hw
    | succ n ih =>
      intro ro rg ho hc ht x1 x3 H locs ls hP hD hS hl hw
      rw [wl_n_X5_digest_91] at hw
      refine lv_iload_n hx hb dX5_digest_91 rfl (lv_at hl 2 rfl) ?_
      refine lv_aload_n hx hb dX5_digest_92 rfl (lv_at hl 0 rfl) ?_
      refine va_get (D := gD G) (ci := 5) (v := .ref qt) (C := RX5) (T := TX5) (N := 7) hx hb hts k_X5_digest_inX5 hown hK hP 0 rfl rfl 4 (by decide) (hts _ k_X5_digest_f34) (fun _ h9 => h9) rfl dX5_digest_93 ?_
      refine va_get (D := gD G) (ci := 4) (v := .int tl) (C := RX4) (T := TX4) (N := 5) hx hb hts k_X5_digest_inX4 hown hK hP 32 rfl rfl 1 (by decide) (hts _ k_X5_digest_f150) (fun _ h9 => h9) rfl dX5_digest_96 ?_
      refine lv_icmp_ge (tgt := 123) hx hb dX5_digest_99 (by decide) (fun cd12 => ?_) (fun cd12 => ?_)
      · have hw := hw.1 cd12
        refine lv_lload_n hx hb dX5_digest_123 rfl (lv_at hl 1 rfl) ?_
        exact fin_l (ro, rg, ho, hc, ht) hx hb hr hlocks hK hS hP hD hw dX5_digest_124
      · have hw := hw.2 cd12
        refine lv_lload_n hx hb dX5_digest_102 rfl (lv_at hl 1 rfl) ?_
        refine lv_aload_n hx hb dX5_digest_103 rfl (lv_at hl 0 rfl) ?_
        refine va_get (D := gD G) (ci := 5) (v := .ref qt) (C := RX5) (T := TX5) (N := 7) hx hb hts k_X5_digest_inX5 hown hK hP 0 rfl rfl 4 (by decide) (hts _ k_X5_digest_f34) (fun _ h9 => h9) rfl dX5_digest_104 ?_
        refine va_get (D := gD G) (ci := 4) (v := .ref qtc) (C := RX4) (T := TX4) (N := 5) hx hb hts k_X5_digest_inX4 hown hK hP 32 rfl rfl 0 (by decide) (hts _ k_X5_digest_f248) (fun _ h9 => h9) rfl dX5_digest_107 ?_
        refine lv_iload_n hx hb dX5_digest_110 rfl (lv_at hl 2 rfl) ?_
        obtain ⟨h13, hw⟩ := hw
        refine va_iald hx hb hK hP 33 0 rfl rfl h13 dX5_digest_111 ?_
        refine lv_i2l hx hb dX5_digest_112 rfl ?_
        refine kcR_l (kr_S [] ⟨hx, hb, hml, hown, hts⟩ (cn_X5_mix l G x1 ((tc x3.toNatClampNeg).toInt64) hw H.size) (va_cwS 2 hts gX5_digest_X5_mix rfl rfl rfl (by decide +kernel) ⟨Nat.le_of_ble_eq_true rfl, Nat.le_of_ble_eq_true rfl⟩) hK hG hP hD hS hA [] rfl rfl rfl hl.1 rfl (Nat.le_of_ble_eq_true rfl) dX5_digest_113 ⟨Nat.le_of_ble_eq_true rfl, Nat.le_of_ble_eq_true rfl⟩) hP hD hS hA [] rfl (fun r14 u H locs hw hP hS => ?_)
        try dsimp only at hw
        refine lv_lstore_n (lv' := [(1, .long r14), (0, .ref qm), (3, .int x3)]) hx hb dX5_digest_116 rfl hl (by decide) rfl (fun ls hl => ?_)
        refine lv_iinc (v := (x3 + 1)) (lv' := [(3, .int (x3 + 1)), (1, .long r14), (0, .ref qm)]) hx hb dX5_digest_117 hl (k := 2) rfl rfl (by decide) rfl (fun ls hl => ?_)
        refine lv_goto (tgt := 91) hx hb dX5_digest_120 (by decide) ?_
        exact ih ro rg ho hc ht r14 (x3 + 1) _ _ _ hP hD hS (lv_sub hl [2, 1, 0] rfl) hw
  have J66 : ∀ (k46 : (Nat → Int32) → (Nat → Int32) → (Nat → Int32) → (Nat → Int32) → (Nat → Int32) → Int64 → Int32 → Prop) (hk46 : ∀ (ro : Nat → Int32) (rg : Nat → Int32) (ho : Nat → Int32) (hc : Nat → Int32) (ht : Nat → Int32) (x1 : Int64) (x3 : Int32) (H : Heap) (locs : List Loc) (ls : Array Slot), va_P (gD G) vwCl (w0_X5_digest G qm qd qs qn qk qt qr qx qdb qde qdf qsa qs0 qs0b qs0e qs0f qs1 qs1b qs1e qs1f qs2 qs2b qs2e qs2f qs3 qs3b qs3e qs3f qs4 qs4b qs4e qs4f qs5 qs5b qs5e qs5f qtc qtn qro qrg qxo qxc qxt db de df dc dp dk so sn sb se sf sc sp sk tk tc tl tn tf tv ro rg ho hc ht) H → va_D A (w0_X5_digest G qm qd qs qn qk qt qr qx qdb qde qdf qsa qs0 qs0b qs0e qs0f qs1 qs1b qs1e qs1f qs2 qs2b qs2e qs2f qs3 qs3b qs3e qs3f qs4 qs4b qs4e qs4f qs5 qs5b qs5e qs5f qtc qtn qro qrg qxo qxc qxt db de df dc dp dk so sn sb se sf sc sp sk tk tc tl tn tf tv ro rg ho hc ht) → va_S A s.heap H locs → lv_has ls 4 [(0, .ref qm), (1, .long x1), (3, .int x3)] → k46 ro rg ho hc ht x1 x3 → W p l e ({ frames := 22, cells := 0, slots := 0, locals := 568 } : Room) s m ([.ref qm] : List Value).toArray below meth c H locs 0 0 (MQ below (va_Ql (fun (r : Int64) (u : (Nat → Int32) × (Nat → Int32) × (Nat → Int32) × (Nat → Int32) × (Nat → Int32)) => Q r u.1 u.2.1 u.2.2.1 u.2.2.2.1 u.2.2.2.2) (mBk G A (fun (u : (Nat → Int32) × (Nat → Int32) × (Nat → Int32) × (Nat → Int32) × (Nat → Int32)) => (w0_X5_digest G qm qd qs qn qk qt qr qx qdb qde qdf qsa qs0 qs0b qs0e qs0f qs1 qs1b qs1e qs1f qs2 qs2b qs2e qs2f qs3 qs3b qs3e qs3f qs4 qs4b qs4e qs4f qs5 qs5b qs5e qs5f qtc qtn qro qrg qxo qxc qxt db de df dc dp dk so sn sb se sf sc sp sk tk tc tl tn tf tv u.1 u.2.1 u.2.2.1 u.2.2.2.1 u.2.2.2.2))) A) ([.ref qm] : List Value).toArray s 0 0 A) (F0 m 46 ls [])) (ro : Nat → Int32) (rg : Nat → Int32) (ho : Nat → Int32) (hc : Nat → Int32) (ht : Nat → Int32) (x1 : Int64) (x3 : Int32) (y0 : Int64) (y1 : Int64) (H : Heap) (locs : List Loc) (ls : Array Slot), va_P (gD G) vwCl (w0_X5_digest G qm qd qs qn qk qt qr qx qdb qde qdf qsa qs0 qs0b qs0e qs0f qs1 qs1b qs1e qs1f qs2 qs2b qs2e qs2f qs3 qs3b qs3e qs3f qs4 qs4b qs4e qs4f qs5 qs5b qs5e qs5f qtc qtn qro qrg qxo qxc qxt db de df dc dp dk so sn sb se sf sc sp sk tk tc tl tn tf tv ro rg ho hc ht) H → va_D A (w0_X5_digest G qm qd qs qn qk qt qr qx qdb qde qdf qsa qs0 qs0b qs0e qs0f qs1 qs1b qs1e qs1f qs2 qs2b qs2e qs2f qs3 qs3b qs3e qs3f qs4 qs4b qs4e qs4f qs5 qs5b qs5e qs5f qtc qtn qro qrg qxo qxc qxt db de df dc dp dk so sn sb se sf sc sp sk tk tc tl tn tf tv ro rg ho hc ht) → va_S A s.heap H locs → lv_has ls 4 [(0, .ref qm), (1, .long x1), (3, .int x3)] → wj_n_X5_digest_66 db de df dc dp dk sn tk tc tl Q k46 ro rg ho hc ht x1 x3 y0 y1 → W p l e ({ frames := 22, cells := 0, slots := 0, locals := 568 } : Room) s m ([.ref qm] : List Value).toArray below meth c H locs 0 0 (MQ below (va_Ql (fun (r : Int64) (u : (Nat → Int32) × (Nat → Int32) × (Nat → Int32) × (Nat → Int32) × (Nat → Int32)) => Q r u.1 u.2.1 u.2.2.1 u.2.2.2.1 u.2.2.2.2) (mBk G A (fun (u : (Nat → Int32) × (Nat → Int32) × (Nat → Int32) × (Nat → Int32) × (Nat → Int32)) => (w0_X5_digest G qm qd qs qn qk qt qr qx qdb qde qdf qsa qs0 qs0b qs0e qs0f qs1 qs1b qs1e qs1f qs2 qs2b qs2e qs2f qs3 qs3b qs3e qs3f qs4 qs4b qs4e qs4f qs5 qs5b qs5e qs5f qtc qtn qro qrg qxo qxc qxt db de df dc dp dk so sn sb se sf sc sp sk tk tc tl tn tf tv u.1 u.2.1 u.2.2.1 u.2.2.2.1 u.2.2.2.2))) A) ([.ref qm] : List Value).toArray s 0 0 A) (F0 m 66 ls [.long y1, .long y0]) := by
    intro k46 hk46 ro rg ho hc ht x1 x3 y0 y1 H locs ls hP hD hS hl hw
    unfold wj_n_X5_digest_66 at hw
    refine kcR_l (kr_S [] ⟨hx, hb, hml, hown, hts⟩ (cn_X5_mix l G y0 y1 hw H.size) (va_cwS 2 hts gX5_digest_X5_mix rfl rfl rfl (by decide +kernel) ⟨Nat.le_of_ble_eq_true rfl, Nat.le_of_ble_eq_true rfl⟩) hK hG hP hD hS hA [] rfl rfl rfl hl.1 rfl (Nat.le_of_ble_eq_true rfl) dX5_digest_66 ⟨Nat.le_of_ble_eq_true rfl, Nat.le_of_ble_eq_true rfl⟩) hP hD hS hA [] rfl (fun r17 u H locs hw hP hS => ?_)
    try dsimp only at hw
    refine lv_lstore_n (lv' := [(1, .long r17), (0, .ref qm), (3, .int x3)]) hx hb dX5_digest_69 rfl hl (by decide) rfl (fun ls hl => ?_)
    refine lv_iinc (v := (x3 + 1)) (lv' := [(3, .int (x3 + 1)), (1, .long r17), (0, .ref qm)]) hx hb dX5_digest_70 hl (k := 2) rfl rfl (by decide) rfl (fun ls hl => ?_)
    refine lv_goto (tgt := 46) hx hb dX5_digest_73 (by decide) ?_
    exact hk46 ro rg ho hc ht r17 (x3 + 1) _ _ _ hP hD hS (lv_sub hl [2, 1, 0] rfl) hw
  have J46 : ∀ (n : Nat) (ro : Nat → Int32) (rg : Nat → Int32) (ho : Nat → Int32) (hc : Nat → Int32) (ht : Nat → Int32) (x1 : Int64) (x3 : Int32) (H : Heap) (locs : List Loc) (ls : Array Slot), va_P (gD G) vwCl (w0_X5_digest G qm qd qs qn qk qt qr qx qdb qde qdf qsa qs0 qs0b qs0e qs0f qs1 qs1b qs1e qs1f qs2 qs2b qs2e qs2f qs3 qs3b qs3e qs3f qs4 qs4b qs4e qs4f qs5 qs5b qs5e qs5f qtc qtn qro qrg qxo qxc qxt db de df dc dp dk so sn sb se sf sc sp sk tk tc tl tn tf tv ro rg ho hc ht) H → va_D A (w0_X5_digest G qm qd qs qn qk qt qr qx qdb qde qdf qsa qs0 qs0b qs0e qs0f qs1 qs1b qs1e qs1f qs2 qs2b qs2e qs2f qs3 qs3b qs3e qs3f qs4 qs4b qs4e qs4f qs5 qs5b qs5e qs5f qtc qtn qro qrg qxo qxc qxt db de df dc dp dk so sn sb se sf sc sp sk tk tc tl tn tf tv ro rg ho hc ht) → va_S A s.heap H locs → lv_has ls 4 [(0, .ref qm), (1, .long x1), (3, .int x3)] → wl_n_X5_digest_46 db de df dc dp dk sn tk tc tl Q n ro rg ho hc ht x1 x3 → W p l e ({ frames := 22, cells := 0, slots := 0, locals := 568 } : Room) s m ([.ref qm] : List Value).toArray below meth c H locs 0 0 (MQ below (va_Ql (fun (r : Int64) (u : (Nat → Int32) × (Nat → Int32) × (Nat → Int32) × (Nat → Int32) × (Nat → Int32)) => Q r u.1 u.2.1 u.2.2.1 u.2.2.2.1 u.2.2.2.2) (mBk G A (fun (u : (Nat → Int32) × (Nat → Int32) × (Nat → Int32) × (Nat → Int32) × (Nat → Int32)) => (w0_X5_digest G qm qd qs qn qk qt qr qx qdb qde qdf qsa qs0 qs0b qs0e qs0f qs1 qs1b qs1e qs1f qs2 qs2b qs2e qs2f qs3 qs3b qs3e qs3f qs4 qs4b qs4e qs4f qs5 qs5b qs5e qs5f qtc qtn qro qrg qxo qxc qxt db de df dc dp dk so sn sb se sf sc sp sk tk tc tl tn tf tv u.1 u.2.1 u.2.2.1 u.2.2.2.1 u.2.2.2.2))) A) ([.ref qm] : List Value).toArray s 0 0 A) (F0 m 46 ls []) := by
    intro n
    induction n with
    | zero => intro ro rg ho hc ht x1 x3 H locs ls hP hD hS hl hw; exact False.elim hw
    | succ n ih =>
      intro ro rg ho hc ht x1 x3 H locs ls hP hD hS hl hw
      rw [wl_n_X5_digest_46] at hw
      refine lv_iload_n hx hb dX5_digest_46 rfl (lv_at hl 2 rfl) ?_
      refine lv_iconst (v := 2) hx hb dX5_digest_47 (by decide) ?_
      refine lv_icmp_ge (tgt := 76) hx hb dX5_digest_48 (by decide) (fun cd10 => ?_) (fun cd10 => ?_)
      · have hw := hw.1 cd10
        refine lv_lload_n hx hb dX5_digest_76 rfl (lv_at hl 1 rfl) ?_
        refine lv_aload_n hx hb dX5_digest_77 rfl (lv_at hl 0 rfl) ?_
        refine va_get (D := gD G) (ci := 5) (v := .ref qt) (C := RX5) (T := TX5) (N := 7) hx hb hts k_X5_digest_inX5 hown hK hP 0 rfl rfl 4 (by decide) (hts _ k_X5_digest_f34) (fun _ h9 => h9) rfl dX5_digest_78 ?_
        refine va_get (D := gD G) (ci := 4) (v := .int tl) (C := RX4) (T := TX4) (N := 5) hx hb hts k_X5_digest_inX4 hown hK hP 32 rfl rfl 1 (by decide) (hts _ k_X5_digest_f150) (fun _ h9 => h9) rfl dX5_digest_81 ?_
        refine lv_i2l hx hb dX5_digest_84 rfl ?_
        refine kcR_l (kr_S [] ⟨hx, hb, hml, hown, hts⟩ (cn_X5_mix l G x1 tl.toInt64 hw H.size) (va_cwS 2 hts gX5_digest_X5_mix rfl rfl rfl (by decide +kernel) ⟨Nat.le_of_ble_eq_true rfl, Nat.le_of_ble_eq_true rfl⟩) hK hG hP hD hS hA [] rfl rfl rfl hl.1 rfl (Nat.le_of_ble_eq_true rfl) dX5_digest_85 ⟨Nat.le_of_ble_eq_true rfl, Nat.le_of_ble_eq_true rfl⟩) hP hD hS hA [] rfl (fun r11 u H locs hw hP hS => ?_)
        try dsimp only at hw
        refine lv_lstore_n (lv' := [(1, .long r11), (0, .ref qm), (3, .int x3)]) hx hb dX5_digest_88 rfl hl (by decide) rfl (fun ls hl => ?_)
        refine lv_iconst (v := 0) hx hb dX5_digest_89 (by decide) ?_
        refine lv_istore_n (lv' := [(3, .int (0 : Int32)), (1, .long r11), (0, .ref qm)]) hx hb dX5_digest_90 rfl hl (by decide) rfl (fun ls hl => ?_)
        obtain ⟨n91, hw⟩ := hw
        exact J91 n91 ro rg ho hc ht r11 (0 : Int32) _ _ _ hP hD hS (lv_sub hl [2, 1, 0] rfl) hw
      · have hw := hw.2 cd10
        refine lv_lload_n hx hb dX5_digest_51 rfl (lv_at hl 1 rfl) ?_
        refine lv_aload_n hx hb dX5_digest_52 rfl (lv_at hl 0 rfl) ?_
        refine va_get (D := gD G) (ci := 5) (v := .ref qk) (C := RX5) (T := TX5) (N := 7) hx hb hts k_X5_digest_inX5 hown hK hP 0 rfl rfl 3 (by decide) (hts _ k_X5_digest_f27) (fun _ h9 => h9) rfl dX5_digest_53 ?_
        refine lv_iload_n hx hb dX5_digest_56 rfl (lv_at hl 2 rfl) ?_
        obtain ⟨h15, hw⟩ := hw
        refine va_zald hx hb hK hP 31 1 rfl rfl h15 dX5_digest_57 ?_
        refine lv_if_eq (tgt := 65) hx hb dX5_digest_58 (by decide) (fun cd16 => ?_) (fun cd16 => ?_)
        · have hw := hw.1 cd16
          refine lv_lconst (v := 0) hx hb dX5_digest_65 (by decide) ?_
          exact J66 (fun (z0 : Nat → Int32) (z1 : Nat → Int32) (z2 : Nat → Int32) (z3 : Nat → Int32) (z4 : Nat → Int32) (z5 : Int64) (z6 : Int32) => wl_n_X5_digest_46 db de df dc dp dk sn tk tc tl Q n z0 z1 z2 z3 z4 z5 z6) ih ro rg ho hc ht x1 x3 x1 (0 : Int64) _ _ _ hP hD hS hl hw
        · have hw := hw.2 cd16
          refine lv_lconst (v := 1) hx hb dX5_digest_61 (by decide) ?_
          refine lv_goto (tgt := 66) hx hb dX5_digest_62 (by decide) ?_
          exact J66 (fun (z0 : Nat → Int32) (z1 : Nat → Int32) (z2 : Nat → Int32) (z3 : Nat → Int32) (z4 : Nat → Int32) (z5 : Int64) (z6 : Int32) => wl_n_X5_digest_46 db de df dc dp dk sn tk tc tl Q n z0 z1 z2 z3 z4 z5 z6) ih ro rg ho hc ht x1 x3 x1 (1 : Int64) _ _ _ hP hD hS hl hw
  have J14 : ∀ (n : Nat) (ro : Nat → Int32) (rg : Nat → Int32) (ho : Nat → Int32) (hc : Nat → Int32) (ht : Nat → Int32) (x1 : Int64) (x3 : Int32) (H : Heap) (locs : List Loc) (ls : Array Slot), va_P (gD G) vwCl (w0_X5_digest G qm qd qs qn qk qt qr qx qdb qde qdf qsa qs0 qs0b qs0e qs0f qs1 qs1b qs1e qs1f qs2 qs2b qs2e qs2f qs3 qs3b qs3e qs3f qs4 qs4b qs4e qs4f qs5 qs5b qs5e qs5f qtc qtn qro qrg qxo qxc qxt db de df dc dp dk so sn sb se sf sc sp sk tk tc tl tn tf tv ro rg ho hc ht) H → va_D A (w0_X5_digest G qm qd qs qn qk qt qr qx qdb qde qdf qsa qs0 qs0b qs0e qs0f qs1 qs1b qs1e qs1f qs2 qs2b qs2e qs2f qs3 qs3b qs3e qs3f qs4 qs4b qs4e qs4f qs5 qs5b qs5e qs5f qtc qtn qro qrg qxo qxc qxt db de df dc dp dk so sn sb se sf sc sp sk tk tc tl tn tf tv ro rg ho hc ht) → va_S A s.heap H locs → lv_has ls 4 [(0, .ref qm), (1, .long x1), (3, .int x3)] → wl_n_X5_digest_14 db de df dc dp dk sn tk tc tl Q n ro rg ho hc ht x1 x3 → W p l e ({ frames := 22, cells := 0, slots := 0, locals := 568 } : Room) s m ([.ref qm] : List Value).toArray below meth c H locs 0 0 (MQ below (va_Ql (fun (r : Int64) (u : (Nat → Int32) × (Nat → Int32) × (Nat → Int32) × (Nat → Int32) × (Nat → Int32)) => Q r u.1 u.2.1 u.2.2.1 u.2.2.2.1 u.2.2.2.2) (mBk G A (fun (u : (Nat → Int32) × (Nat → Int32) × (Nat → Int32) × (Nat → Int32) × (Nat → Int32)) => (w0_X5_digest G qm qd qs qn qk qt qr qx qdb qde qdf qsa qs0 qs0b qs0e qs0f qs1 qs1b qs1e qs1f qs2 qs2b qs2e qs2f qs3 qs3b qs3e qs3f qs4 qs4b qs4e qs4f qs5 qs5b qs5e qs5f qtc qtn qro qrg qxo qxc qxt db de df dc dp dk so sn sb se sf sc sp sk tk tc tl tn tf tv u.1 u.2.1 u.2.2.1 u.2.2.2.1 u.2.2.2.2))) A) ([.ref qm] : List Value).toArray s 0 0 A) (F0 m 14 ls []) := by
    intro n
    induction n with
    | zero => intro ro rg ho hc ht x1 x3 H locs ls hP hD hS hl hw; exact False.elim hw
    | succ n ih =>
      intro ro rg ho hc ht x1 x3 H locs ls hP hD hS hl hw
      rw [wl_n_X5_digest_14] at hw
      refine lv_iload_n hx hb dX5_digest_14 rfl (lv_at hl 2 rfl) ?_
      refine lv_aload_n hx hb dX5_digest_15 rfl (lv_at hl 0 rfl) ?_
      refine va_get (D := gD G) (ci := 5) (v := .ref qd) (C := RX5) (T := TX5) (N := 7) hx hb hts k_X5_digest_inX5 hown hK hP 0 rfl rfl 0 (by decide) (hts _ k_X5_digest_f10) (fun _ h9 => h9) rfl dX5_digest_16 ?_
      refine va_get (D := gD G) (ci := 1) (v := .int dc) (C := RX1) (T := TX1) (N := 6) hx hb hts k_X5_digest_inX1 hown hK hP 1 rfl rfl 3 (by decide) (hts _ k_X5_digest_f71) (fun _ h9 => h9) rfl dX5_digest_19 ?_
      refine lv_icmp_ge (tgt := 38) hx hb dX5_digest_22 (by decide) (fun cd3 => ?_) (fun cd3 => ?_)
      · have hw := hw.1 cd3
        refine lv_aload_n hx hb dX5_digest_38 rfl (lv_at hl 0 rfl) ?_
        refine lv_lload_n hx hb dX5_digest_39 rfl (lv_at hl 1 rfl) ?_
        refine kc_l (kr_V [] ⟨hx, hb, hml, hown, hts⟩ (cn_X5_mixWhole l G qm qd qs qn qk qt qr qx qdb qde qdf qsa qs0 qs0b qs0e qs0f qs1 qs1b qs1e qs1f qs2 qs2b qs2e qs2f qs3 qs3b qs3e qs3f qs4 qs4b qs4e qs4f qs5 qs5b qs5e qs5f qro qrg qxo qxc qxt db de df dc dp dk so sn sb se sf sc sp sk ro rg ho hc ht x1 hw H.size) (cwV 1 hts gX5_digest_X5_mixWhole rfl rfl rfl (by decide +kernel) ⟨Nat.le_of_ble_eq_true rfl, Nat.le_of_ble_eq_true rfl⟩) hK hG hP hD hS hA [0, 1, 2, 3, 4, 5, 6, 7, 8, 9, 10, 11, 12, 13, 14, 15, 16, 17, 18, 19, 20, 21, 22, 23, 24, 25, 26, 27, 28, 29, 30, 35, 36, 37, 38, 39, 40, 41] rfl rfl 5 0 rfl rfl rfl hl.1 rfl (Nat.le_of_ble_eq_true rfl) dX5_digest_40 ⟨Nat.le_of_ble_eq_true rfl, Nat.le_of_ble_eq_true rfl⟩) hP hD hS hA [0, 1, 2, 3, 4, 5, 6, 7, 8, 9, 10, 11, 12, 13, 14, 15, 16, 17, 18, 19, 20, 21, 22, 23, 24, 25, 26, 27, 28, 29, 30, 35, 36, 37, 38, 39, 40, 41] [31, 32, 33, 34] rfl rfl rfl (by decide) (fun r4 u H locs hw hP hD hS => ?_)
        obtain ⟨ro_5, rg_6, ho_7, hc_8, ht_9⟩ := u
        try dsimp only at hw
        have hP := hP.sub (ws' := (w0_X5_digest G qm qd qs qn qk qt qr qx qdb qde qdf qsa qs0 qs0b qs0e qs0f qs1 qs1b qs1e qs1f qs2 qs2b qs2e qs2f qs3 qs3b qs3e qs3f qs4 qs4b qs4e qs4f qs5 qs5b qs5e qs5f qtc qtn qro qrg qxo qxc qxt db de df dc dp dk so sn sb se sf sc sp sk tk tc tl tn tf tv ro_5 rg_6 ho_7 hc_8 ht_9)) [4, 5, 6, 7, 8, 9, 10, 11, 12, 13, 14, 15, 16, 17, 18, 19, 20, 21, 22, 23, 24, 25, 26, 27, 28, 29, 30, 31, 32, 33, 34, 0, 1, 2, 3, 35, 36, 37, 38, 39, 40, 41] rfl
        have hD := hD.sub (ws' := (w0_X5_digest G qm qd qs qn qk qt qr qx qdb qde qdf qsa qs0 qs0b qs0e qs0f qs1 qs1b qs1e qs1f qs2 qs2b qs2e qs2f qs3 qs3b qs3e qs3f qs4 qs4b qs4e qs4f qs5 qs5b qs5e qs5f qtc qtn qro qrg qxo qxc qxt db de df dc dp dk so sn sb se sf sc sp sk tk tc tl tn tf tv ro_5 rg_6 ho_7 hc_8 ht_9)) [4, 5, 6, 7, 8, 9, 10, 11, 12, 13, 14, 15, 16, 17, 18, 19, 20, 21, 22, 23, 24, 25, 26, 27, 28, 29, 30, 31, 32, 33, 34, 0, 1, 2, 3, 35, 36, 37, 38, 39, 40, 41] rfl rfl
        refine lv_lstore_n (lv' := [(1, .long r4), (0, .ref qm), (3, .int x3)]) hx hb dX5_digest_43 rfl hl (by decide) rfl (fun ls hl => ?_)
        refine lv_iconst (v := 0) hx hb dX5_digest_44 (by decide) ?_
        refine lv_istore_n (lv' := [(3, .int (0 : Int32)), (1, .long r4), (0, .ref qm)]) hx hb dX5_digest_45 rfl hl (by decide) rfl (fun ls hl => ?_)
        obtain ⟨n46, hw⟩ := hw
        exact J46 n46 ro_5 rg_6 ho_7 hc_8 ht_9 r4 (0 : Int32) _ _ _ hP hD hS (lv_sub hl [2, 1, 0] rfl) hw
      · have hw := hw.2 cd3
        refine lv_aload_n hx hb dX5_digest_25 rfl (lv_at hl 0 rfl) ?_
        refine lv_lload_n hx hb dX5_digest_26 rfl (lv_at hl 1 rfl) ?_
        refine lv_iload_n hx hb dX5_digest_27 rfl (lv_at hl 2 rfl) ?_
        refine kc_l (kr_V [] ⟨hx, hb, hml, hown, hts⟩ (cn_X5_mixRehearsal l G qm qd qs qn qk qt qr qx qdb qde qdf qro qrg qxo qxc qxt db de df dc dp dk ro rg ho hc ht x1 x3 hw H.size) (cwV 2 hts gX5_digest_X5_mixRehearsal rfl rfl rfl (by decide +kernel) ⟨Nat.le_of_ble_eq_true rfl, Nat.le_of_ble_eq_true rfl⟩) hK hG hP hD hS hA [0, 1, 2, 3, 4, 35, 36, 37, 38, 39, 40, 41] rfl rfl 5 0 rfl rfl rfl hl.1 rfl (Nat.le_of_ble_eq_true rfl) dX5_digest_28 ⟨Nat.le_of_ble_eq_true rfl, Nat.le_of_ble_eq_true rfl⟩) hP hD hS hA [0, 1, 2, 3, 4, 35, 36, 37, 38, 39, 40, 41] [5, 6, 7, 8, 9, 10, 11, 12, 13, 14, 15, 16, 17, 18, 19, 20, 21, 22, 23, 24, 25, 26, 27, 28, 29, 30, 31, 32, 33, 34] rfl rfl rfl (by decide) (fun r18 u H locs hw hP hD hS => ?_)
        obtain ⟨ro_19, rg_20, ho_21, ht_22⟩ := u
        try dsimp only at hw
        have hP := hP.sub (ws' := (w0_X5_digest G qm qd qs qn qk qt qr qx qdb qde qdf qsa qs0 qs0b qs0e qs0f qs1 qs1b qs1e qs1f qs2 qs2b qs2e qs2f qs3 qs3b qs3e qs3f qs4 qs4b qs4e qs4f qs5 qs5b qs5e qs5f qtc qtn qro qrg qxo qxc qxt db de df dc dp dk so sn sb se sf sc sp sk tk tc tl tn tf tv ro_19 rg_20 ho_21 hc ht_22)) [30, 31, 32, 33, 34, 0, 1, 2, 3, 4, 5, 6, 7, 8, 9, 10, 11, 12, 13, 14, 15, 16, 17, 18, 19, 20, 21, 22, 23, 24, 25, 26, 27, 28, 29, 35, 36, 37, 38, 39, 40, 41] rfl
        have hD := hD.sub (ws' := (w0_X5_digest G qm qd qs qn qk qt qr qx qdb qde qdf qsa qs0 qs0b qs0e qs0f qs1 qs1b qs1e qs1f qs2 qs2b qs2e qs2f qs3 qs3b qs3e qs3f qs4 qs4b qs4e qs4f qs5 qs5b qs5e qs5f qtc qtn qro qrg qxo qxc qxt db de df dc dp dk so sn sb se sf sc sp sk tk tc tl tn tf tv ro_19 rg_20 ho_21 hc ht_22)) [30, 31, 32, 33, 34, 0, 1, 2, 3, 4, 5, 6, 7, 8, 9, 10, 11, 12, 13, 14, 15, 16, 17, 18, 19, 20, 21, 22, 23, 24, 25, 26, 27, 28, 29, 35, 36, 37, 38, 39, 40, 41] rfl rfl
        refine lv_lstore_n (lv' := [(1, .long r18), (0, .ref qm), (3, .int x3)]) hx hb dX5_digest_31 rfl hl (by decide) rfl (fun ls hl => ?_)
        refine lv_iinc (v := (x3 + 1)) (lv' := [(3, .int (x3 + 1)), (1, .long r18), (0, .ref qm)]) hx hb dX5_digest_32 hl (k := 2) rfl rfl (by decide) rfl (fun ls hl => ?_)
        refine lv_goto (tgt := 14) hx hb dX5_digest_35 (by decide) ?_
        exact ih ro_19 rg_20 ho_21 hc ht_22 r18 (x3 + 1) _ _ _ hP hD hS (lv_sub hl [2, 1, 0] rfl) hw
  unfold wn_X5_digest at hw
  refine lv_ldc2 (v := 4327) hx hb hown (hts _ k_X5_digest_c231) dX5_digest_0 ?_
  refine lv_aload_n hx hb dX5_digest_3 rfl (lv_at hl 0 rfl) ?_
  refine kcR_i (kr_V [.long (4327 : Int64)] ⟨hx, hb, hml, hown, hts⟩ (cn_X5_rehearsals l G qm qd qs qn qk qt qr qx qdb qde qdf db de df dc dp dk hw H.size) (cwV 0 hts gX5_digest_X5_rehearsals rfl rfl rfl (by decide +kernel) ⟨Nat.le_of_ble_eq_true rfl, Nat.le_of_ble_eq_true rfl⟩) hK hG hP hD hS hA [0, 1, 2, 3, 4] rfl rfl 5 0 rfl rfl rfl hl.1 rfl (Nat.le_of_ble_eq_true rfl) dX5_digest_4 ⟨Nat.le_of_ble_eq_true rfl, Nat.le_of_ble_eq_true rfl⟩) hP hD hS hA [0, 1, 2, 3, 4] rfl (fun r1 u H locs hw hP hS => ?_)
  try dsimp only at hw
  refine lv_i2l hx hb dX5_digest_7 rfl ?_
  refine kcR_l (kr_S [] ⟨hx, hb, hml, hown, hts⟩ (cn_X5_mix l G (4327 : Int64) r1.toInt64 hw H.size) (va_cwS 2 hts gX5_digest_X5_mix rfl rfl rfl (by decide +kernel) ⟨Nat.le_of_ble_eq_true rfl, Nat.le_of_ble_eq_true rfl⟩) hK hG hP hD hS hA [] rfl rfl rfl hl.1 rfl (Nat.le_of_ble_eq_true rfl) dX5_digest_8 ⟨Nat.le_of_ble_eq_true rfl, Nat.le_of_ble_eq_true rfl⟩) hP hD hS hA [] rfl (fun r2 u H locs hw hP hS => ?_)
  try dsimp only at hw
  refine lv_lstore_n (lv' := [(1, .long r2), (0, .ref qm)]) hx hb dX5_digest_11 rfl hl (by decide) rfl (fun ls hl => ?_)
  refine lv_iconst (v := 0) hx hb dX5_digest_12 (by decide) ?_
  refine lv_istore_n (lv' := [(3, .int (0 : Int32)), (1, .long r2), (0, .ref qm)]) hx hb dX5_digest_13 rfl hl (by decide) rfl (fun ls hl => ?_)
  obtain ⟨n14, hw⟩ := hw
  exact J14 n14 ro rg ho hc ht r2 (0 : Int32) _ _ _ hP hD hS (lv_sub hl [2, 1, 0] rfl) hw

abbrev w0_X6_thrown (G : mG) (qy : Nat) (qyn : Nat) (qyt : Nat) (qyu : Nat) (qyf : Nat) (qyr : Nat) (qyb : Nat) (qyk : Nat) (qyi : Nat) (qyx : Nat) (yn : Nat → Int32) (yt : Nat → Int32) (yu : Nat → Int32) (yf : Nat → Int32) (yr : Nat → Int32) (yb : Nat → Int32) (yk : Nat → Int32) (yi : Nat → Int32) (yx : Nat → Int32) (za : Int32) (zs : Int32) (zl : Int32) (zt : Int32) (zg : Int32) (zr : Int32) (zm : Int32) : va_W := [(qy, .inr (6, [.int za, .ref qyn, .ref qyt, .ref qyu, .ref qyf, .ref qyr, .ref qyb, .int zs, .ref qyk, .ref qyi, .ref qyx, .int zl, .int zt, .int zg, .int zr, .int zm])), (qyn, .inl (gI G, (45, .inl yn))), (qyt, .inl (gI G, (45, .inl yt))), (qyu, .inl (gI G, (16384, .inl yu))), (qyf, .inl (gI G, (14, .inl yf))), (qyr, .inl (gI G, (14, .inl yr))), (qyb, .inl (gI G, (270, .inl yb))), (qyk, .inl (gI G, (90, .inl yk))), (qyi, .inl (gZ G, (2, .inl yi))), (qyx, .inl (gI G, (60, .inl yx)))]
set_option maxRecDepth 100000 in
theorem k_X6_thrown_inX6 : ∀ w ∈ u_ws RX6 TX6 16, w ∈ wsX6_thrown := by decide +kernel
set_option maxRecDepth 100000 in
theorem k_X6_thrown_f38 : Cond.fieldLink RX6 38 "RehearsalRoomModel" "refusal" "I" ∈ wsX6_thrown := by decide +kernel
set_option maxHeartbeats 8000000 in
set_option maxRecDepth 100000 in
theorem cn_X6_thrown (l : Launch) (G : mG) (qy : Nat) (qyn : Nat) (qyt : Nat) (qyu : Nat) (qyf : Nat) (qyr : Nat) (qyb : Nat) (qyk : Nat) (qyi : Nat) (qyx : Nat) (yn : Nat → Int32) (yt : Nat → Int32) (yu : Nat → Int32) (yf : Nat → Int32) (yr : Nat → Int32) (yb : Nat → Int32) (yk : Nat → Int32) (yi : Nat → Int32) (yx : Nat → Int32) (za : Int32) (zs : Int32) (zl : Int32) (zt : Int32) (zg : Int32) (zr : Int32) (zm : Int32) {Q : Int32 → Prop} (hw : wn_X6_thrown za Q) (sz : Nat) :
    Met l yX6_thrown wsX6_thrown ({ frames := 0, cells := 0, slots := 0, locals := 0 } : Room) (va_Pc [.ref qy] (mPre G (w0_X6_thrown G qy qyn qyt qyu qyf qyr qyb qyk qyi qyx yn yt yu yf yr yb yk yi yx za zs zl zt zg zr zm) sz)) (va_Qi (fun (r : Int32) (u : Unit) => Q r) (mBk G (va_A (w0_X6_thrown G qy qyn qyt qyu qyf qyr qyb qyk qyi qyx yn yt yu yf yr yb yk yi yx za zs zl zt zg zr zm) sz) (fun (u : Unit) => (w0_X6_thrown G qy qyn qyt qyu qyf qyr qyb qyk qyi qyx yn yt yu yf yr yb yk yi yx za zs zl zt zg zr zm))) (va_A (w0_X6_thrown G qy qyn qyt qyu qyf qyr qyb qyk qyi qyx yn yt yu yf yr yb yk yi yx za zs zl zt zg zr zm) sz)) 0 0 (va_A (w0_X6_thrown G qy qyn qyt qyu qyf qyr qyb qyk qyi qyx yn yt yu yf yr yb yk yi yx za zs zl zt zg zr zm) sz) := by
  refine ms_i (cc := cX6_thrown) (maxL := 1) (ret := some .int) (post := (fun (r : Int32) (u : Unit) => Q r)) (w1 := (fun (u : Unit) => (w0_X6_thrown G qy qyn qyt qyu qyf qyr qyb qyk qyi qyx yn yt yu yf yr yb yk yi yx za zs zl zt zg zr zm))) (by decide) rfl (Nat.le_of_ble_eq_true rfl) ?_ sz
  intro p e s m below meth c A ls H locs hx hb hr hml hown hts hlocks hK hG hP hD hS hA hl
  have hown : s.vm.findClass RX6 = some m.cls := hown
  have hl : lv_has ls 1 [(0, .ref qy)] := hl
  unfold wn_X6_thrown at hw
  refine lv_aload_n hx hb dX6_thrown_0 rfl (lv_at hl 0 rfl) ?_
  refine va_get (D := gD G) (ci := 6) (v := .int za) (C := RX6) (T := TX6) (N := 16) hx hb hts k_X6_thrown_inX6 hown hK hP 0 rfl rfl 0 (by decide) (hts _ k_X6_thrown_f38) (fun _ h9 => h9) rfl dX6_thrown_1 ?_
  exact fin_i () hx hb hr hlocks hK hS hP hD hw dX6_thrown_4

abbrev w0_X6_refused (G : mG) (qy : Nat) (qyn : Nat) (qyt : Nat) (qyu : Nat) (qyf : Nat) (qyr : Nat) (qyb : Nat) (qyk : Nat) (qyi : Nat) (qyx : Nat) (yn : Nat → Int32) (yt : Nat → Int32) (yu : Nat → Int32) (yf : Nat → Int32) (yr : Nat → Int32) (yb : Nat → Int32) (yk : Nat → Int32) (yi : Nat → Int32) (yx : Nat → Int32) (za : Int32) (zs : Int32) (zl : Int32) (zt : Int32) (zg : Int32) (zr : Int32) (zm : Int32) : va_W := [(qy, .inr (6, [.int za, .ref qyn, .ref qyt, .ref qyu, .ref qyf, .ref qyr, .ref qyb, .int zs, .ref qyk, .ref qyi, .ref qyx, .int zl, .int zt, .int zg, .int zr, .int zm])), (qyn, .inl (gI G, (45, .inl yn))), (qyt, .inl (gI G, (45, .inl yt))), (qyu, .inl (gI G, (16384, .inl yu))), (qyf, .inl (gI G, (14, .inl yf))), (qyr, .inl (gI G, (14, .inl yr))), (qyb, .inl (gI G, (270, .inl yb))), (qyk, .inl (gI G, (90, .inl yk))), (qyi, .inl (gZ G, (2, .inl yi))), (qyx, .inl (gI G, (60, .inl yx)))]
set_option maxRecDepth 100000 in
theorem k_X6_refused_inX6 : ∀ w ∈ u_ws RX6 TX6 16, w ∈ wsX6_refused := by decide +kernel
set_option maxRecDepth 100000 in
theorem k_X6_refused_f38 : Cond.fieldLink RX6 38 "RehearsalRoomModel" "refusal" "I" ∈ wsX6_refused := by decide +kernel
set_option maxHeartbeats 8000000 in
set_option maxRecDepth 100000 in
theorem cn_X6_refused (l : Launch) (G : mG) (qy : Nat) (qyn : Nat) (qyt : Nat) (qyu : Nat) (qyf : Nat) (qyr : Nat) (qyb : Nat) (qyk : Nat) (qyi : Nat) (qyx : Nat) (yn : Nat → Int32) (yt : Nat → Int32) (yu : Nat → Int32) (yf : Nat → Int32) (yr : Nat → Int32) (yb : Nat → Int32) (yk : Nat → Int32) (yi : Nat → Int32) (yx : Nat → Int32) (za : Int32) (zs : Int32) (zl : Int32) (zt : Int32) (zg : Int32) (zr : Int32) (zm : Int32) (a1 : Int32) {Q : Int32 → Int32 → Prop} (hw : wn_X6_refused za a1 Q) (sz : Nat) :
    Met l yX6_refused wsX6_refused ({ frames := 0, cells := 0, slots := 0, locals := 0 } : Room) (va_Pc [.ref qy, .int a1] (mPre G (w0_X6_refused G qy qyn qyt qyu qyf qyr qyb qyk qyi qyx yn yt yu yf yr yb yk yi yx za zs zl zt zg zr zm) sz)) (va_Qi (fun (r : Int32) (u : Int32) => (r = 0 ∨ r = 1) ∧ Q r u) (mBk G (va_A (w0_X6_refused G qy qyn qyt qyu qyf qyr qyb qyk qyi qyx yn yt yu yf yr yb yk yi yx za zs zl zt zg zr zm) sz) (fun (u : Int32) => (w0_X6_refused G qy qyn qyt qyu qyf qyr qyb qyk qyi qyx yn yt yu yf yr yb yk yi yx u zs zl zt zg zr zm))) (va_A (w0_X6_refused G qy qyn qyt qyu qyf qyr qyb qyk qyi qyx yn yt yu yf yr yb yk yi yx za zs zl zt zg zr zm) sz)) 0 0 (va_A (w0_X6_refused G qy qyn qyt qyu qyf qyr qyb qyk qyi qyx yn yt yu yf yr yb yk yi yx za zs zl zt zg zr zm) sz) := by
  refine ms_i (cc := cX6_refused) (maxL := 2) (ret := some .boolean) (post := (fun (r : Int32) (u : Int32) => (r = 0 ∨ r = 1) ∧ Q r u)) (w1 := (fun (u : Int32) => (w0_X6_refused G qy qyn qyt qyu qyf qyr qyb qyk qyi qyx yn yt yu yf yr yb yk yi yx u zs zl zt zg zr zm))) (by decide) rfl (Nat.le_of_ble_eq_true rfl) ?_ sz
  intro p e s m below meth c A ls H locs hx hb hr hml hown hts hlocks hK hG hP hD hS hA hl
  have hown : s.vm.findClass RX6 = some m.cls := hown
  have hl : lv_has ls 2 [(0, .ref qy), (1, .int a1)] := hl
  unfold wn_X6_refused at hw
  refine lv_aload_n hx hb dX6_refused_0 rfl (lv_at hl 0 rfl) ?_
  refine lv_iload_n hx hb dX6_refused_1 rfl (lv_at hl 1 rfl) ?_
  refine va_put (D := gD G) (ci := 6) (v := .int a1) (ty := .int) (C := RX6) (T := TX6) (N := 16) hx hb hts k_X6_refused_inX6 tyX6 tyX6_ok nmX6 hown hK hP hD hS 0 rfl rfl 0 (by decide) (hts _ k_X6_refused_f38) (fun _ h9 => h9) rfl (by decide +kernel) rfl rfl (Nat.le_of_ble_eq_true rfl) dX6_refused_2 (fun H locs hP hD hS => ?_)
  have hP : va_P (gD G) vwCl (w0_X6_refused G qy qyn qyt qyu qyf qyr qyb qyk qyi qyx yn yt yu yf yr yb yk yi yx a1 zs zl zt zg zr zm) H := hP
  have hD : va_D A (w0_X6_refused G qy qyn qyt qyu qyf qyr qyb qyk qyi qyx yn yt yu yf yr yb yk yi yx a1 zs zl zt zg zr zm) := hD
  refine lv_iload_n hx hb dX6_refused_5 rfl (lv_at hl 1 rfl) ?_
  refine lv_if_eq (tgt := 13) hx hb dX6_refused_6 (by decide) (fun cd1 => ?_) (fun cd1 => ?_)
  · have hw := hw.1 cd1
    refine lv_iconst (v := 0) hx hb dX6_refused_13 (by decide) ?_
    exact fin_z (a1) hx hb hr (nz (Or.inl rfl)) hlocks hK hS hP hD ⟨(Or.inl rfl), hw⟩ dX6_refused_14
  · have hw := hw.2 cd1
    refine lv_iconst (v := 1) hx hb dX6_refused_9 (by decide) ?_
    refine lv_goto (tgt := 14) hx hb dX6_refused_10 (by decide) ?_
    exact fin_z (a1) hx hb hr (nz (Or.inr rfl)) hlocks hK hS hP hD ⟨(Or.inr rfl), hw⟩ dX6_refused_14

abbrev w0_X6_in (G : mG) : va_W := []
set_option maxHeartbeats 8000000 in
set_option maxRecDepth 100000 in
theorem cn_X6_in (l : Launch) (G : mG) (a0 : Int64) (a2 : Int64) (a4 : Int64) {Q : Int32 → Prop} (hw : wn_X6_in a0 a2 a4 Q) (sz : Nat) :
    Met l yX6_in wsX6_in ({ frames := 0, cells := 0, slots := 0, locals := 0 } : Room) (va_Pc [.long a0, .long a2, .long a4] (mPre G (w0_X6_in G) sz)) (va_Qi (fun (r : Int32) (u : Unit) => (r = 0 ∨ r = 1) ∧ Q r) (mBk G (va_A (w0_X6_in G) sz) (fun (u : Unit) => (w0_X6_in G))) (va_A (w0_X6_in G) sz)) 0 0 (va_A (w0_X6_in G) sz) := by
  refine ms_i (cc := cX6_in) (maxL := 6) (ret := some .boolean) (post := (fun (r : Int32) (u : Unit) => (r = 0 ∨ r = 1) ∧ Q r)) (w1 := (fun (u : Unit) => (w0_X6_in G))) (by decide) rfl (Nat.le_of_ble_eq_true rfl) ?_ sz
  intro p e s m below meth c A ls H locs hx hb hr hml hown hts hlocks hK hG hP hD hS hA hl
  have hown : s.vm.findClass RX6 = some m.cls := hown
  have hl : lv_has ls 6 [(0, .long a0), (2, .long a2), (4, .long a4)] := hl
  unfold wn_X6_in at hw
  refine lv_lload_n hx hb dX6_in_0 rfl (lv_at hl 0 rfl) ?_
  refine lv_lload_n hx hb dX6_in_1 rfl (lv_at hl 1 rfl) ?_
  refine W.lcmp hx hb dX6_in_2 ?_
  refine lv_if_lt (tgt := 17) hx hb dX6_in_3 (by decide) (fun cd1 => ?_) (fun cd1 => ?_)
  · have hw := hw.1 cd1
    refine lv_iconst (v := 0) hx hb dX6_in_17 (by decide) ?_
    exact fin_z () hx hb hr (nz (Or.inl rfl)) hlocks hK hS hP hD ⟨(Or.inl rfl), hw⟩ dX6_in_18
  · have hw := hw.2 cd1
    refine lv_lload_n hx hb dX6_in_6 rfl (lv_at hl 0 rfl) ?_
    refine lv_lload hx hb dX6_in_7 (lv_at hl 2 rfl) ?_
    refine W.lcmp hx hb dX6_in_9 ?_
    refine lv_if_gt (tgt := 17) hx hb dX6_in_10 (by decide) (fun cd2 => ?_) (fun cd2 => ?_)
    · have hw := hw.1 cd2
      refine lv_iconst (v := 0) hx hb dX6_in_17 (by decide) ?_
      exact fin_z () hx hb hr (nz (Or.inl rfl)) hlocks hK hS hP hD ⟨(Or.inl rfl), hw⟩ dX6_in_18
    · have hw := hw.2 cd2
      refine lv_iconst (v := 1) hx hb dX6_in_13 (by decide) ?_
      refine lv_goto (tgt := 18) hx hb dX6_in_14 (by decide) ?_
      exact fin_z () hx hb hr (nz (Or.inr rfl)) hlocks hK hS hP hD ⟨(Or.inr rfl), hw⟩ dX6_in_18

abbrev w0_X6_copy (G : mG) (qu : Nat) (qv : Nat) (uu : Nat → Int32) (vv : Nat → Int32) : va_W := [(qu, .inl (gI G, (45, .inl uu))), (qv, .inl (gI G, (45, .inl vv)))]
set_option maxHeartbeats 8000000 in
set_option maxRecDepth 100000 in
theorem cn_X6_copy (l : Launch) (G : mG) (qu : Nat) (qv : Nat) (uu : Nat → Int32) (vv : Nat → Int32) {Q : (Nat → Int32) → Prop} (hw : wn_X6_copy uu vv Q) (sz : Nat) :
    Met l yX6_copy wsX6_copy ({ frames := 0, cells := 0, slots := 0, locals := 0 } : Room) (va_Pc [.ref qu, .ref qv] (mPre G (w0_X6_copy G qu qv uu vv) sz)) (va_Qv (fun (u : (Nat → Int32)) => Q u) (mBk G (va_A (w0_X6_copy G qu qv uu vv) sz) (fun (u : (Nat → Int32)) => (w0_X6_copy G qu qv uu u))) (va_A (w0_X6_copy G qu qv uu vv) sz)) 0 0 (va_A (w0_X6_copy G qu qv uu vv) sz) := by
  refine ms_v (cc := cX6_copy) (maxL := 3) (ret := none) (post := (fun (u : (Nat → Int32)) => Q u)) (w1 := (fun (u : (Nat → Int32)) => (w0_X6_copy G qu qv uu u))) (by decide) rfl (Nat.le_of_ble_eq_true rfl) ?_ sz
  intro p e s m below meth c A ls H locs hx hb hr hml hown hts hlocks hK hG hP hD hS hA hl
  have hown : s.vm.findClass RX6 = some m.cls := hown
  have hl : lv_has ls 3 [(0, .ref qu), (1, .ref qv)] := hl
  have J2 : ∀ (n : Nat) (vv : Nat → Int32) (x2 : Int32) (H : Heap) (locs : List Loc) (ls : Array Slot), va_P (gD G) vwCl (w0_X6_copy G qu qv uu vv) H → va_D A (w0_X6_copy G qu qv uu vv) → va_S A s.heap H locs → lv_has ls 3 [(0, .ref qu), (1, .ref qv), (2, .int x2)] → wl_n_X6_copy_2 uu Q n vv x2 → W p l e ({ frames := 0, cells := 0, slots := 0, locals := 0 } : Room) s m ([.ref qu, .ref qv] : List Value).toArray below meth c H locs 0 0 (MQ below (va_Qv (fun (u : (Nat → Int32)) => Q u) (mBk G A (fun (u : (Nat → Int32)) => (w0_X6_copy G qu qv uu u))) A) ([.ref qu, .ref qv] : List Value).toArray s 0 0 A) (F0 m 2 ls []) := by
    intro n
    induction n with
    | zero => intro vv x2 H locs ls hP hD hS hl hw; exact False.elim hw
    | succ n ih =>
      intro vv x2 H locs ls hP hD hS hl hw
      rw [wl_n_X6_copy_2] at hw
      refine lv_iload_n hx hb dX6_copy_2 rfl (lv_at hl 2 rfl) ?_
      refine lv_bipush (v := 45) hx hb dX6_copy_3 (by decide) ?_
      refine lv_icmp_ge (tgt := 20) hx hb dX6_copy_5 (by decide) (fun cd1 => ?_) (fun cd1 => ?_)
      · have hw := hw.1 cd1
        exact fin_v (vv) hx hb hr hlocks hK hS hP hD hw dX6_copy_20
      · have hw := hw.2 cd1
        refine lv_aload_n hx hb dX6_copy_8 rfl (lv_at hl 1 rfl) ?_
        refine lv_iload_n hx hb dX6_copy_9 rfl (lv_at hl 2 rfl) ?_
        refine lv_aload_n hx hb dX6_copy_10 rfl (lv_at hl 0 rfl) ?_
        refine lv_iload_n hx hb dX6_copy_11 rfl (lv_at hl 2 rfl) ?_
        obtain ⟨h2, hw⟩ := hw
        refine va_iald hx hb hK hP 0 0 rfl rfl h2 dX6_copy_12 ?_
        obtain ⟨h3, hw⟩ := hw
        refine va_iast hx hb hK hP hD hS 1 0 rfl rfl h3 dX6_copy_13 (fun H locs hP hD hS => ?_)
        have hP : va_P (gD G) vwCl (w0_X6_copy G qu qv uu (upd vv x2.toNatClampNeg (uu x2.toNatClampNeg))) H := hP
        have hD : va_D A (w0_X6_copy G qu qv uu (upd vv x2.toNatClampNeg (uu x2.toNatClampNeg))) := hD
        refine lv_iinc (v := (x2 + 1)) (lv' := [(2, .int (x2 + 1)), (0, .ref qu), (1, .ref qv)]) hx hb dX6_copy_14 hl (k := 2) rfl rfl (by decide) rfl (fun ls hl => ?_)
        refine lv_goto (tgt := 2) hx hb dX6_copy_17 (by decide) ?_
        exact ih (upd vv x2.toNatClampNeg (uu x2.toNatClampNeg)) (x2 + 1) _ _ _ hP hD hS (lv_sub hl [1, 2, 0] rfl) hw
  unfold wn_X6_copy at hw
  refine lv_iconst (v := 0) hx hb dX6_copy_0 (by decide) ?_
  refine lv_istore_n (lv' := [(2, .int (0 : Int32)), (0, .ref qu), (1, .ref qv)]) hx hb dX6_copy_1 rfl hl (by decide) rfl (fun ls hl => ?_)
  obtain ⟨n2, hw⟩ := hw
  exact J2 n2 vv (0 : Int32) _ _ _ hP hD hS (lv_sub hl [1, 2, 0] rfl) hw

abbrev w0_X6_isThere (G : mG) (qy : Nat) (qyn : Nat) (qyt : Nat) (qyu : Nat) (qyf : Nat) (qyr : Nat) (qyb : Nat) (qyk : Nat) (qyi : Nat) (qyx : Nat) (yn : Nat → Int32) (yt : Nat → Int32) (yu : Nat → Int32) (yf : Nat → Int32) (yr : Nat → Int32) (yb : Nat → Int32) (yk : Nat → Int32) (yi : Nat → Int32) (yx : Nat → Int32) (za : Int32) (zs : Int32) (zl : Int32) (zt : Int32) (zg : Int32) (zr : Int32) (zm : Int32) : va_W := [(qy, .inr (6, [.int za, .ref qyn, .ref qyt, .ref qyu, .ref qyf, .ref qyr, .ref qyb, .int zs, .ref qyk, .ref qyi, .ref qyx, .int zl, .int zt, .int zg, .int zr, .int zm])), (qyn, .inl (gI G, (45, .inl yn))), (qyt, .inl (gI G, (45, .inl yt))), (qyu, .inl (gI G, (16384, .inl yu))), (qyf, .inl (gI G, (14, .inl yf))), (qyr, .inl (gI G, (14, .inl yr))), (qyb, .inl (gI G, (270, .inl yb))), (qyk, .inl (gI G, (90, .inl yk))), (qyi, .inl (gZ G, (2, .inl yi))), (qyx, .inl (gI G, (60, .inl yx)))]
set_option maxRecDepth 100000 in
theorem k_X6_isThere_inX6 : ∀ w ∈ u_ws RX6 TX6 16, w ∈ wsX6_isThere := by decide +kernel
set_option maxRecDepth 100000 in
theorem k_X6_isThere_f7 : Cond.fieldLink RX6 7 "RehearsalRoomModel" "now" "[I" ∈ wsX6_isThere := by decide +kernel
set_option maxHeartbeats 8000000 in
set_option maxRecDepth 100000 in
theorem cn_X6_isThere (l : Launch) (G : mG) (qy : Nat) (qyn : Nat) (qyt : Nat) (qyu : Nat) (qyf : Nat) (qyr : Nat) (qyb : Nat) (qyk : Nat) (qyi : Nat) (qyx : Nat) (yn : Nat → Int32) (yt : Nat → Int32) (yu : Nat → Int32) (yf : Nat → Int32) (yr : Nat → Int32) (yb : Nat → Int32) (yk : Nat → Int32) (yi : Nat → Int32) (yx : Nat → Int32) (za : Int32) (zs : Int32) (zl : Int32) (zt : Int32) (zg : Int32) (zr : Int32) (zm : Int32) (a1 : Int32) {Q : Int32 → Prop} (hw : wn_X6_isThere yn a1 Q) (sz : Nat) :
    Met l yX6_isThere wsX6_isThere ({ frames := 1, cells := 0, slots := 0, locals := 25 } : Room) (va_Pc [.ref qy, .int a1] (mPre G (w0_X6_isThere G qy qyn qyt qyu qyf qyr qyb qyk qyi qyx yn yt yu yf yr yb yk yi yx za zs zl zt zg zr zm) sz)) (va_Qi (fun (r : Int32) (u : Unit) => (r = 0 ∨ r = 1) ∧ Q r) (mBk G (va_A (w0_X6_isThere G qy qyn qyt qyu qyf qyr qyb qyk qyi qyx yn yt yu yf yr yb yk yi yx za zs zl zt zg zr zm) sz) (fun (u : Unit) => (w0_X6_isThere G qy qyn qyt qyu qyf qyr qyb qyk qyi qyx yn yt yu yf yr yb yk yi yx za zs zl zt zg zr zm))) (va_A (w0_X6_isThere G qy qyn qyt qyu qyf qyr qyb qyk qyi qyx yn yt yu yf yr yb yk yi yx za zs zl zt zg zr zm) sz)) 0 0 (va_A (w0_X6_isThere G qy qyn qyt qyu qyf qyr qyb qyk qyi qyx yn yt yu yf yr yb yk yi yx za zs zl zt zg zr zm) sz) := by
  refine ms_i (cc := cX6_isThere) (maxL := 2) (ret := some .boolean) (post := (fun (r : Int32) (u : Unit) => (r = 0 ∨ r = 1) ∧ Q r)) (w1 := (fun (u : Unit) => (w0_X6_isThere G qy qyn qyt qyu qyf qyr qyb qyk qyi qyx yn yt yu yf yr yb yk yi yx za zs zl zt zg zr zm))) (by decide) rfl (Nat.le_of_ble_eq_true rfl) ?_ sz
  intro p e s m below meth c A ls H locs hx hb hr hml hown hts hlocks hK hG hP hD hS hA hl
  have hown : s.vm.findClass RX6 = some m.cls := hown
  have hl : lv_has ls 2 [(0, .ref qy), (1, .int a1)] := hl
  unfold wn_X6_isThere at hw
  refine lv_iload_n hx hb dX6_isThere_0 rfl (lv_at hl 1 rfl) ?_
  refine lv_i2l hx hb dX6_isThere_1 rfl ?_
  refine lv_lconst (v := 0) hx hb dX6_isThere_2 (by decide) ?_
  refine lv_aload_n hx hb dX6_isThere_3 rfl (lv_at hl 0 rfl) ?_
  refine va_get (D := gD G) (ci := 6) (v := .ref qyn) (C := RX6) (T := TX6) (N := 16) hx hb hts k_X6_isThere_inX6 hown hK hP 0 rfl rfl 1 (by decide) (hts _ k_X6_isThere_f7) (fun _ h9 => h9) rfl dX6_isThere_4 ?_
  refine lv_bipush (v := 44) hx hb dX6_isThere_7 (by decide) ?_
  obtain ⟨h1, hw⟩ := hw
  refine va_iald hx hb hK hP 1 0 rfl rfl h1 dX6_isThere_9 ?_
  refine lv_iconst (v := 1) hx hb dX6_isThere_10 (by decide) ?_
  refine lv_isub hx hb dX6_isThere_11 ?_
  refine lv_i2l hx hb dX6_isThere_12 rfl ?_
  refine kcR_i (kr_S [] ⟨hx, hb, hml, hown, hts⟩ (cn_X6_in l G a1.toInt64 (0 : Int64) (((yn (44 : Int32).toNatClampNeg) - (1 : Int32)).toInt64) hw H.size) (va_cwS 3 hts gX6_isThere_X6_in rfl rfl rfl (by decide +kernel) ⟨Nat.le_of_ble_eq_true rfl, Nat.le_of_ble_eq_true rfl⟩) hK hG hP hD hS hA [] rfl rfl rfl hl.1 rfl (Nat.le_of_ble_eq_true rfl) dX6_isThere_13 ⟨Nat.le_of_ble_eq_true rfl, Nat.le_of_ble_eq_true rfl⟩) hP hD hS hA [] rfl (fun r2 u H locs hw hP hS => ?_)
  try dsimp only at hw
  obtain ⟨hz_r2, hw⟩ := hw
  exact fin_z () hx hb hr (nz hz_r2) hlocks hK hS hP hD ⟨hz_r2, hw⟩ dX6_isThere_16

abbrev w0_X6_isTime (G : mG) : va_W := []
set_option maxRecDepth 100000 in
theorem k_X6_isTime_c46 : Cond.constantLong RX6 46 (95) ∈ wsX6_isTime := by decide +kernel
set_option maxRecDepth 100000 in
theorem k_X6_isTime_c48 : Cond.constantLong RX6 48 (96) ∈ wsX6_isTime := by decide +kernel
set_option maxHeartbeats 8000000 in
set_option maxRecDepth 100000 in
theorem cn_X6_isTime (l : Launch) (G : mG) (a0 : Int32) (a1 : Int32) {Q : Int32 → Prop} (hw : wn_X6_isTime a0 a1 Q) (sz : Nat) :
    Met l yX6_isTime wsX6_isTime ({ frames := 1, cells := 0, slots := 0, locals := 25 } : Room) (va_Pc [.int a0, .int a1] (mPre G (w0_X6_isTime G) sz)) (va_Qi (fun (r : Int32) (u : Unit) => (r = 0 ∨ r = 1) ∧ Q r) (mBk G (va_A (w0_X6_isTime G) sz) (fun (u : Unit) => (w0_X6_isTime G))) (va_A (w0_X6_isTime G) sz)) 0 0 (va_A (w0_X6_isTime G) sz) := by
  refine ms_i (cc := cX6_isTime) (maxL := 2) (ret := some .boolean) (post := (fun (r : Int32) (u : Unit) => (r = 0 ∨ r = 1) ∧ Q r)) (w1 := (fun (u : Unit) => (w0_X6_isTime G))) (by decide) rfl (Nat.le_of_ble_eq_true rfl) ?_ sz
  intro p e s m below meth c A ls H locs hx hb hr hml hown hts hlocks hK hG hP hD hS hA hl
  have hown : s.vm.findClass RX6 = some m.cls := hown
  have hl : lv_has ls 2 [(0, .int a0), (1, .int a1)] := hl
  unfold wn_X6_isTime at hw
  refine lv_iload_n hx hb dX6_isTime_0 rfl (lv_at hl 0 rfl) ?_
  refine lv_i2l hx hb dX6_isTime_1 rfl ?_
  refine lv_lconst (v := 0) hx hb dX6_isTime_2 (by decide) ?_
  refine lv_ldc2 (v := 95) hx hb hown (hts _ k_X6_isTime_c46) dX6_isTime_3 ?_
  refine kcR_i (kr_S [] ⟨hx, hb, hml, hown, hts⟩ (cn_X6_in l G a0.toInt64 (0 : Int64) (95 : Int64) hw H.size) (va_cwS 3 hts gX6_isTime_X6_in rfl rfl rfl (by decide +kernel) ⟨Nat.le_of_ble_eq_true rfl, Nat.le_of_ble_eq_true rfl⟩) hK hG hP hD hS hA [] rfl rfl rfl hl.1 rfl (Nat.le_of_ble_eq_true rfl) dX6_isTime_6 ⟨Nat.le_of_ble_eq_true rfl, Nat.le_of_ble_eq_true rfl⟩) hP hD hS hA [] rfl (fun r1 u H locs hw hP hS => ?_)
  try dsimp only at hw
  obtain ⟨hz_r1, hw⟩ := hw
  refine lv_if_eq (tgt := 33) hx hb dX6_isTime_9 (by decide) (fun cd2 => ?_) (fun cd2 => ?_)
  · have hw := hw.1 cd2
    refine lv_iconst (v := 0) hx hb dX6_isTime_33 (by decide) ?_
    exact fin_z () hx hb hr (nz (Or.inl rfl)) hlocks hK hS hP hD ⟨(Or.inl rfl), hw⟩ dX6_isTime_34
  · have hw := hw.2 cd2
    refine lv_iload_n hx hb dX6_isTime_12 rfl (lv_at hl 1 rfl) ?_
    refine lv_i2l hx hb dX6_isTime_13 rfl ?_
    refine lv_lconst (v := 1) hx hb dX6_isTime_14 (by decide) ?_
    refine lv_ldc2 (v := 96) hx hb hown (hts _ k_X6_isTime_c48) dX6_isTime_15 ?_
    refine kcR_i (kr_S [] ⟨hx, hb, hml, hown, hts⟩ (cn_X6_in l G a1.toInt64 (1 : Int64) (96 : Int64) hw H.size) (va_cwS 3 hts gX6_isTime_X6_in rfl rfl rfl (by decide +kernel) ⟨Nat.le_of_ble_eq_true rfl, Nat.le_of_ble_eq_true rfl⟩) hK hG hP hD hS hA [] rfl rfl rfl hl.1 rfl (Nat.le_of_ble_eq_true rfl) dX6_isTime_18 ⟨Nat.le_of_ble_eq_true rfl, Nat.le_of_ble_eq_true rfl⟩) hP hD hS hA [] rfl (fun r3 u H locs hw hP hS => ?_)
    try dsimp only at hw
    obtain ⟨hz_r3, hw⟩ := hw
    refine lv_if_eq (tgt := 33) hx hb dX6_isTime_21 (by decide) (fun cd4 => ?_) (fun cd4 => ?_)
    · have hw := hw.1 cd4
      refine lv_iconst (v := 0) hx hb dX6_isTime_33 (by decide) ?_
      exact fin_z () hx hb hr (nz (Or.inl rfl)) hlocks hK hS hP hD ⟨(Or.inl rfl), hw⟩ dX6_isTime_34
    · have hw := hw.2 cd4
      refine lv_iload_n hx hb dX6_isTime_24 rfl (lv_at hl 1 rfl) ?_
      refine lv_iload_n hx hb dX6_isTime_25 rfl (lv_at hl 0 rfl) ?_
      refine lv_icmp_le (tgt := 33) hx hb dX6_isTime_26 (by decide) (fun cd5 => ?_) (fun cd5 => ?_)
      · have hw := hw.1 cd5
        refine lv_iconst (v := 0) hx hb dX6_isTime_33 (by decide) ?_
        exact fin_z () hx hb hr (nz (Or.inl rfl)) hlocks hK hS hP hD ⟨(Or.inl rfl), hw⟩ dX6_isTime_34
      · have hw := hw.2 cd5
        refine lv_iconst (v := 1) hx hb dX6_isTime_29 (by decide) ?_
        refine lv_goto (tgt := 34) hx hb dX6_isTime_30 (by decide) ?_
        exact fin_z () hx hb hr (nz (Or.inr rfl)) hlocks hK hS hP hD ⟨(Or.inr rfl), hw⟩ dX6_isTime_34

abbrev w0_X6_clash (G : mG) (qu : Nat) (uu : Nat → Int32) : va_W := [(qu, .inl (gI G, (45, .inl uu)))]
set_option maxHeartbeats 8000000 in
set_option maxRecDepth 100000 in
theorem cn_X6_clash (l : Launch) (G : mG) (qu : Nat) (uu : Nat → Int32) (a1 : Int32) (a2 : Int32) {Q : Int32 → Prop} (hw : wn_X6_clash uu a1 a2 Q) (sz : Nat) :
    Met l yX6_clash wsX6_clash ({ frames := 0, cells := 0, slots := 0, locals := 0 } : Room) (va_Pc [.ref qu, .int a1, .int a2] (mPre G (w0_X6_clash G qu uu) sz)) (va_Qi (fun (r : Int32) (u : Unit) => (r = 0 ∨ r = 1) ∧ Q r) (mBk G (va_A (w0_X6_clash G qu uu) sz) (fun (u : Unit) => (w0_X6_clash G qu uu))) (va_A (w0_X6_clash G qu uu) sz)) 0 0 (va_A (w0_X6_clash G qu uu) sz) := by
  refine ms_i (cc := cX6_clash) (maxL := 5) (ret := some .boolean) (post := (fun (r : Int32) (u : Unit) => (r = 0 ∨ r = 1) ∧ Q r)) (w1 := (fun (u : Unit) => (w0_X6_clash G qu uu))) (by decide) rfl (Nat.le_of_ble_eq_true rfl) ?_ sz
  intro p e s m below meth c A ls H locs hx hb hr hml hown hts hlocks hK hG hP hD hS hA hl
  have hown : s.vm.findClass RX6 = some m.cls := hown
  have hl : lv_has ls 5 [(0, .ref qu), (1, .int a1), (2, .int a2)] := hl
  have J45 : ∀ (x1 : Int32) (x2 : Int32) (x3 : Int32) (y0 : Int32) (H : Heap) (locs : List Loc) (ls : Array Slot), (x3 = 0 ∨ x3 = 1) → (y0 = 0 ∨ y0 = 1) → va_P (gD G) vwCl (w0_X6_clash G qu uu) H → va_D A (w0_X6_clash G qu uu) → va_S A s.heap H locs → lv_has ls 5 [(0, .ref qu), (1, .int x1), (2, .int x2), (3, .int x3)] → wj_n_X6_clash_45 uu Q x1 x2 x3 y0 → W p l e ({ frames := 0, cells := 0, slots := 0, locals := 0 } : Room) s m ([.ref qu, .int a1, .int a2] : List Value).toArray below meth c H locs 0 0 (MQ below (va_Qi (fun (r : Int32) (u : Unit) => (r = 0 ∨ r = 1) ∧ Q r) (mBk G A (fun (u : Unit) => (w0_X6_clash G qu uu))) A) ([.ref qu, .int a1, .int a2] : List Value).toArray s 0 0 A) (F0 m 45 ls [.int y0]) := by
    intro x1 x2 x3 y0 H locs ls hz_x3 hz_y0 hP hD hS hl hw
    unfold wj_n_X6_clash_45 at hw
    refine lv_istore (lv' := [(4, .int y0), (0, .ref qu), (1, .int x1), (2, .int x2), (3, .int x3)]) hx hb dX6_clash_45 hl (by decide) rfl (fun ls hl => ?_)
    refine lv_iload_n hx hb dX6_clash_47 rfl (lv_at hl 2 rfl) ?_
    refine lv_iload_n hx hb dX6_clash_48 rfl (lv_at hl 3 rfl) ?_
    refine lv_icmp_eq (tgt := 65) hx hb dX6_clash_49 (by decide) (fun cd9 => ?_) (fun cd9 => ?_)
    · have hw := hw.1 cd9
      refine lv_iconst (v := 0) hx hb dX6_clash_65 (by decide) ?_
      exact fin_z () hx hb hr (nz (Or.inl rfl)) hlocks hK hS hP hD ⟨(Or.inl rfl), hw⟩ dX6_clash_66
    · have hw := hw.2 cd9
      refine lv_iload_n hx hb dX6_clash_52 rfl (lv_at hl 4 rfl) ?_
      refine lv_if_ne (tgt := 65) hx hb dX6_clash_53 (by decide) (fun cd10 => ?_) (fun cd10 => ?_)
      · have hw := hw.1 cd10
        refine lv_iconst (v := 0) hx hb dX6_clash_65 (by decide) ?_
        exact fin_z () hx hb hr (nz (Or.inl rfl)) hlocks hK hS hP hD ⟨(Or.inl rfl), hw⟩ dX6_clash_66
      · have hw := hw.2 cd10
        refine lv_iload hx hb dX6_clash_56 (lv_at hl 0 rfl) ?_
        refine lv_if_ne (tgt := 65) hx hb dX6_clash_58 (by decide) (fun cd11 => ?_) (fun cd11 => ?_)
        · have hw := hw.1 cd11
          refine lv_iconst (v := 0) hx hb dX6_clash_65 (by decide) ?_
          exact fin_z () hx hb hr (nz (Or.inl rfl)) hlocks hK hS hP hD ⟨(Or.inl rfl), hw⟩ dX6_clash_66
        · have hw := hw.2 cd11
          refine lv_iconst (v := 1) hx hb dX6_clash_61 (by decide) ?_
          refine lv_goto (tgt := 66) hx hb dX6_clash_62 (by decide) ?_
          exact fin_z () hx hb hr (nz (Or.inr rfl)) hlocks hK hS hP hD ⟨(Or.inr rfl), hw⟩ dX6_clash_66
  have J22 : ∀ (x1 : Int32) (x2 : Int32) (y0 : Int32) (H : Heap) (locs : List Loc) (ls : Array Slot), (y0 = 0 ∨ y0 = 1) → va_P (gD G) vwCl (w0_X6_clash G qu uu) H → va_D A (w0_X6_clash G qu uu) → va_S A s.heap H locs → lv_has ls 5 [(0, .ref qu), (1, .int x1), (2, .int x2)] → wj_n_X6_clash_22 uu Q x1 x2 y0 → W p l e ({ frames := 0, cells := 0, slots := 0, locals := 0 } : Room) s m ([.ref qu, .int a1, .int a2] : List Value).toArray below meth c H locs 0 0 (MQ below (va_Qi (fun (r : Int32) (u : Unit) => (r = 0 ∨ r = 1) ∧ Q r) (mBk G A (fun (u : Unit) => (w0_X6_clash G qu uu))) A) ([.ref qu, .int a1, .int a2] : List Value).toArray s 0 0 A) (F0 m 22 ls [.int y0]) := by
    intro x1 x2 y0 H locs ls hz_y0 hP hD hS hl hw
    unfold wj_n_X6_clash_22 at hw
    refine lv_istore_n (lv' := [(3, .int y0), (0, .ref qu), (1, .int x1), (2, .int x2)]) hx hb dX6_clash_22 rfl hl (by decide) rfl (fun ls hl => ?_)
    refine lv_aload_n hx hb dX6_clash_23 rfl (lv_at hl 1 rfl) ?_
    refine lv_bipush (v := 14) hx hb dX6_clash_24 (by decide) ?_
    refine lv_iload_n hx hb dX6_clash_26 rfl (lv_at hl 3 rfl) ?_
    refine lv_iadd hx hb dX6_clash_27 ?_
    obtain ⟨h5, hw⟩ := hw
    refine va_iald hx hb hK hP 0 0 rfl rfl h5 dX6_clash_28 ?_
    refine lv_aload_n hx hb dX6_clash_29 rfl (lv_at hl 1 rfl) ?_
    refine lv_bipush (v := 43) hx hb dX6_clash_30 (by decide) ?_
    obtain ⟨h6, hw⟩ := hw
    refine va_iald hx hb hK hP 0 0 rfl rfl h6 dX6_clash_32 ?_
    refine lv_iadd hx hb dX6_clash_33 ?_
    refine lv_aload_n hx hb dX6_clash_34 rfl (lv_at hl 1 rfl) ?_
    refine lv_iload_n hx hb dX6_clash_35 rfl (lv_at hl 2 rfl) ?_
    obtain ⟨h7, hw⟩ := hw
    refine va_iald hx hb hK hP 0 0 rfl rfl h7 dX6_clash_36 ?_
    refine lv_icmp_gt (tgt := 44) hx hb dX6_clash_37 (by decide) (fun cd8 => ?_) (fun cd8 => ?_)
    · have hw := hw.1 cd8
      refine lv_iconst (v := 0) hx hb dX6_clash_44 (by decide) ?_
      exact J45 x1 x2 y0 (0 : Int32) _ _ _ hz_y0 (Or.inl rfl) hP hD hS (lv_sub hl [1, 2, 3, 0] rfl) hw
    · have hw := hw.2 cd8
      refine lv_iconst (v := 1) hx hb dX6_clash_40 (by decide) ?_
      refine lv_goto (tgt := 45) hx hb dX6_clash_41 (by decide) ?_
      exact J45 x1 x2 y0 (1 : Int32) _ _ _ hz_y0 (Or.inr rfl) hP hD hS (lv_sub hl [1, 2, 3, 0] rfl) hw
  unfold wn_X6_clash at hw
  refine lv_aload_n hx hb dX6_clash_0 rfl (lv_at hl 0 rfl) ?_
  refine lv_bipush (v := 14) hx hb dX6_clash_1 (by decide) ?_
  refine lv_iload_n hx hb dX6_clash_3 rfl (lv_at hl 1 rfl) ?_
  refine lv_iadd hx hb dX6_clash_4 ?_
  obtain ⟨h1, hw⟩ := hw
  refine va_iald hx hb hK hP 0 0 rfl rfl h1 dX6_clash_5 ?_
  refine lv_aload_n hx hb dX6_clash_6 rfl (lv_at hl 0 rfl) ?_
  refine lv_bipush (v := 43) hx hb dX6_clash_7 (by decide) ?_
  obtain ⟨h2, hw⟩ := hw
  refine va_iald hx hb hK hP 0 0 rfl rfl h2 dX6_clash_9 ?_
  refine lv_iadd hx hb dX6_clash_10 ?_
  refine lv_aload_n hx hb dX6_clash_11 rfl (lv_at hl 0 rfl) ?_
  refine lv_iload_n hx hb dX6_clash_12 rfl (lv_at hl 2 rfl) ?_
  obtain ⟨h3, hw⟩ := hw
  refine va_iald hx hb hK hP 0 0 rfl rfl h3 dX6_clash_13 ?_
  refine lv_icmp_gt (tgt := 21) hx hb dX6_clash_14 (by decide) (fun cd4 => ?_) (fun cd4 => ?_)
  · have hw := hw.1 cd4
    refine lv_iconst (v := 0) hx hb dX6_clash_21 (by decide) ?_
    exact J22 a1 a2 (0 : Int32) _ _ _ (Or.inl rfl) hP hD hS hl hw
  · have hw := hw.2 cd4
    refine lv_iconst (v := 1) hx hb dX6_clash_17 (by decide) ?_
    refine lv_goto (tgt := 22) hx hb dX6_clash_18 (by decide) ?_
    exact J22 a1 a2 (1 : Int32) _ _ _ (Or.inr rfl) hP hD hS hl hw

abbrev w0_X6_foesOf (G : mG) (qu : Nat) (uu : Nat → Int32) : va_W := [(qu, .inl (gI G, (45, .inl uu)))]
set_option maxHeartbeats 8000000 in
set_option maxRecDepth 100000 in
theorem cn_X6_foesOf (l : Launch) (G : mG) (qu : Nat) (uu : Nat → Int32) (a1 : Int32) {Q : Int32 → Prop} (hw : wn_X6_foesOf uu a1 Q) (sz : Nat) :
    Met l yX6_foesOf wsX6_foesOf ({ frames := 1, cells := 0, slots := 0, locals := 24 } : Room) (va_Pc [.ref qu, .int a1] (mPre G (w0_X6_foesOf G qu uu) sz)) (va_Qi (fun (r : Int32) (u : Unit) => Q r) (mBk G (va_A (w0_X6_foesOf G qu uu) sz) (fun (u : Unit) => (w0_X6_foesOf G qu uu))) (va_A (w0_X6_foesOf G qu uu) sz)) 0 0 (va_A (w0_X6_foesOf G qu uu) sz) := by
  refine ms_i (cc := cX6_foesOf) (maxL := 4) (ret := some .int) (post := (fun (r : Int32) (u : Unit) => Q r)) (w1 := (fun (u : Unit) => (w0_X6_foesOf G qu uu))) (by decide) rfl (Nat.le_of_ble_eq_true rfl) ?_ sz
  intro p e s m below meth c A ls H locs hx hb hr hml hown hts hlocks hK hG hP hD hS hA hl
  have hown : s.vm.findClass RX6 = some m.cls := hown
  have hl : lv_has ls 4 [(0, .ref qu), (1, .int a1)] := hl
  have J29 : ∀ (k4 : Int32 → Int32 → Int32 → Prop) (hk4 : ∀ (x1 : Int32) (x2 : Int32) (x3 : Int32) (H : Heap) (locs : List Loc) (ls : Array Slot), va_P (gD G) vwCl (w0_X6_foesOf G qu uu) H → va_D A (w0_X6_foesOf G qu uu) → va_S A s.heap H locs → lv_has ls 4 [(0, .ref qu), (1, .int x1), (2, .int x2), (3, .int x3)] → k4 x1 x2 x3 → W p l e ({ frames := 1, cells := 0, slots := 0, locals := 24 } : Room) s m ([.ref qu, .int a1] : List Value).toArray below meth c H locs 0 0 (MQ below (va_Qi (fun (r : Int32) (u : Unit) => Q r) (mBk G A (fun (u : Unit) => (w0_X6_foesOf G qu uu))) A) ([.ref qu, .int a1] : List Value).toArray s 0 0 A) (F0 m 4 ls [])) (x1 : Int32) (x2 : Int32) (x3 : Int32) (y0 : Int32) (y1 : Int32) (H : Heap) (locs : List Loc) (ls : Array Slot), va_P (gD G) vwCl (w0_X6_foesOf G qu uu) H → va_D A (w0_X6_foesOf G qu uu) → va_S A s.heap H locs → lv_has ls 4 [(0, .ref qu), (1, .int x1), (2, .int x2), (3, .int x3)] → wj_n_X6_foesOf_29 uu Q k4 x1 x2 x3 y0 y1 → W p l e ({ frames := 1, cells := 0, slots := 0, locals := 24 } : Room) s m ([.ref qu, .int a1] : List Value).toArray below meth c H locs 0 0 (MQ below (va_Qi (fun (r : Int32) (u : Unit) => Q r) (mBk G A (fun (u : Unit) => (w0_X6_foesOf G qu uu))) A) ([.ref qu, .int a1] : List Value).toArray s 0 0 A) (F0 m 29 ls [.int y1, .int y0]) := by
    intro k4 hk4 x1 x2 x3 y0 y1 H locs ls hP hD hS hl hw
    unfold wj_n_X6_foesOf_29 at hw
    refine lv_ior hx hb dX6_foesOf_29 ?_
    refine lv_istore_n (lv' := [(2, .int (y0 ||| y1)), (0, .ref qu), (1, .int x1), (3, .int x3)]) hx hb dX6_foesOf_30 rfl hl (by decide) rfl (fun ls hl => ?_)
    refine lv_iinc (v := (x3 + 1)) (lv' := [(3, .int (x3 + 1)), (2, .int (y0 ||| y1)), (0, .ref qu), (1, .int x1)]) hx hb dX6_foesOf_31 hl (k := 3) rfl rfl (by decide) rfl (fun ls hl => ?_)
    refine lv_goto (tgt := 4) hx hb dX6_foesOf_34 (by decide) ?_
    exact hk4 x1 (y0 ||| y1) (x3 + 1) _ _ _ hP hD hS (lv_sub hl [2, 3, 1, 0] rfl) hw
  have J4 : ∀ (n : Nat) (x1 : Int32) (x2 : Int32) (x3 : Int32) (H : Heap) (locs : List Loc) (ls : Array Slot), va_P (gD G) vwCl (w0_X6_foesOf G qu uu) H → va_D A (w0_X6_foesOf G qu uu) → va_S A s.heap H locs → lv_has ls 4 [(0, .ref qu), (1, .int x1), (2, .int x2), (3, .int x3)] → wl_n_X6_foesOf_4 uu Q n x1 x2 x3 → W p l e ({ frames := 1, cells := 0, slots := 0, locals := 24 } : Room) s m ([.ref qu, .int a1] : List Value).toArray below meth c H locs 0 0 (MQ below (va_Qi (fun (r : Int32) (u : Unit) => Q r) (mBk G A (fun (u : Unit) => (w0_X6_foesOf G qu uu))) A) ([.ref qu, .int a1] : List Value).toArray s 0 0 A) (F0 m 4 ls []) := by
    intro n
    induction n with
    | zero => intro x1 x2 x3 H locs ls hP hD hS hl hw; exact False.elim hw
    | succ n ih =>
      intro x1 x2 x3 H locs ls hP hD hS hl hw
      rw [wl_n_X6_foesOf_4] at hw
      refine lv_iload_n hx hb dX6_foesOf_4 rfl (lv_at hl 3 rfl) ?_
      refine lv_aload_n hx hb dX6_foesOf_5 rfl (lv_at hl 0 rfl) ?_
      refine lv_bipush (v := 44) hx hb dX6_foesOf_6 (by decide) ?_
      obtain ⟨h1, hw⟩ := hw
      refine va_iald hx hb hK hP 0 0 rfl rfl h1 dX6_foesOf_8 ?_
      refine lv_icmp_ge (tgt := 37) hx hb dX6_foesOf_9 (by decide) (fun cd2 => ?_) (fun cd2 => ?_)
      · have hw := hw.1 cd2
        refine lv_iload_n hx hb dX6_foesOf_37 rfl (lv_at hl 2 rfl) ?_
        exact fin_i () hx hb hr hlocks hK hS hP hD hw dX6_foesOf_38
      · have hw := hw.2 cd2
        refine lv_iload_n hx hb dX6_foesOf_12 rfl (lv_at hl 2 rfl) ?_
        refine lv_aload_n hx hb dX6_foesOf_13 rfl (lv_at hl 0 rfl) ?_
        refine lv_iload_n hx hb dX6_foesOf_14 rfl (lv_at hl 1 rfl) ?_
        refine lv_iload_n hx hb dX6_foesOf_15 rfl (lv_at hl 3 rfl) ?_
        refine kcR_i (kr_S [.int x2] ⟨hx, hb, hml, hown, hts⟩ (cn_X6_clash l G qu uu x1 x3 hw H.size) (va_cwS 3 hts gX6_foesOf_X6_clash rfl rfl rfl (by decide +kernel) ⟨Nat.le_of_ble_eq_true rfl, Nat.le_of_ble_eq_true rfl⟩) hK hG hP hD hS hA [0] rfl rfl rfl hl.1 rfl (Nat.le_of_ble_eq_true rfl) dX6_foesOf_16 ⟨Nat.le_of_ble_eq_true rfl, Nat.le_of_ble_eq_true rfl⟩) hP hD hS hA [0] rfl (fun r3 u H locs hw hP hS => ?_)
        try dsimp only at hw
        obtain ⟨hz_r3, hw⟩ := hw
        refine lv_if_eq (tgt := 28) hx hb dX6_foesOf_19 (by decide) (fun cd4 => ?_) (fun cd4 => ?_)
        · have hw := hw.1 cd4
          refine lv_iconst (v := 0) hx hb dX6_foesOf_28 (by decide) ?_
          exact J29 (fun (z0 : Int32) (z1 : Int32) (z2 : Int32) => wl_n_X6_foesOf_4 uu Q n z0 z1 z2) ih x1 x2 x3 x2 (0 : Int32) _ _ _ hP hD hS hl hw
        · have hw := hw.2 cd4
          refine lv_iconst (v := 1) hx hb dX6_foesOf_22 (by decide) ?_
          refine lv_iload_n hx hb dX6_foesOf_23 rfl (lv_at hl 3 rfl) ?_
          refine lv_ishl hx hb dX6_foesOf_24 ?_
          refine lv_goto (tgt := 29) hx hb dX6_foesOf_25 (by decide) ?_
          exact J29 (fun (z0 : Int32) (z1 : Int32) (z2 : Int32) => wl_n_X6_foesOf_4 uu Q n z0 z1 z2) ih x1 x2 x3 x2 ((1 : Int32) <<< (x3 &&& 31)) _ _ _ hP hD hS hl hw
  unfold wn_X6_foesOf at hw
  refine lv_iconst (v := 0) hx hb dX6_foesOf_0 (by decide) ?_
  refine lv_istore_n (lv' := [(2, .int (0 : Int32)), (0, .ref qu), (1, .int a1)]) hx hb dX6_foesOf_1 rfl hl (by decide) rfl (fun ls hl => ?_)
  refine lv_iconst (v := 0) hx hb dX6_foesOf_2 (by decide) ?_
  refine lv_istore_n (lv' := [(3, .int (0 : Int32)), (2, .int (0 : Int32)), (0, .ref qu), (1, .int a1)]) hx hb dX6_foesOf_3 rfl hl (by decide) rfl (fun ls hl => ?_)
  obtain ⟨n4, hw⟩ := hw
  exact J4 n4 a1 (0 : Int32) (0 : Int32) _ _ _ hP hD hS (lv_sub hl [2, 3, 1, 0] rfl) hw

abbrev w0_X6_bits (G : mG) : va_W := []
set_option maxHeartbeats 8000000 in
set_option maxRecDepth 100000 in
theorem cn_X6_bits (l : Launch) (G : mG) (a0 : Int32) {Q : Int32 → Prop} (hw : wn_X6_bits a0 Q) (sz : Nat) :
    Met l yX6_bits wsX6_bits ({ frames := 0, cells := 0, slots := 0, locals := 0 } : Room) (va_Pc [.int a0] (mPre G (w0_X6_bits G) sz)) (va_Qi (fun (r : Int32) (u : Unit) => Q r) (mBk G (va_A (w0_X6_bits G) sz) (fun (u : Unit) => (w0_X6_bits G))) (va_A (w0_X6_bits G) sz)) 0 0 (va_A (w0_X6_bits G) sz) := by
  refine ms_i (cc := cX6_bits) (maxL := 3) (ret := some .int) (post := (fun (r : Int32) (u : Unit) => Q r)) (w1 := (fun (u : Unit) => (w0_X6_bits G))) (by decide) rfl (Nat.le_of_ble_eq_true rfl) ?_ sz
  intro p e s m below meth c A ls H locs hx hb hr hml hown hts hlocks hK hG hP hD hS hA hl
  have hown : s.vm.findClass RX6 = some m.cls := hown
  have hl : lv_has ls 3 [(0, .int a0)] := hl
  have J4 : ∀ (n : Nat) (x0 : Int32) (x1 : Int32) (x2 : Int32) (H : Heap) (locs : List Loc) (ls : Array Slot), va_P (gD G) vwCl (w0_X6_bits G) H → va_D A (w0_X6_bits G) → va_S A s.heap H locs → lv_has ls 3 [(0, .int x0), (1, .int x1), (2, .int x2)] → wl_n_X6_bits_4 Q n x0 x1 x2 → W p l e ({ frames := 0, cells := 0, slots := 0, locals := 0 } : Room) s m ([.int a0] : List Value).toArray below meth c H locs 0 0 (MQ below (va_Qi (fun (r : Int32) (u : Unit) => Q r) (mBk G A (fun (u : Unit) => (w0_X6_bits G))) A) ([.int a0] : List Value).toArray s 0 0 A) (F0 m 4 ls []) := by
    intro n
    induction n with
    | zero => intro x0 x1 x2 H locs ls hP hD hS hl hw; exact False.elim hw
    | succ n ih =>
      intro x0 x1 x2 H locs ls hP hD hS hl hw
      rw [wl_n_X6_bits_4] at hw
      refine lv_iload_n hx hb dX6_bits_4 rfl (lv_at hl 2 rfl) ?_
      refine lv_bipush (v := 14) hx hb dX6_bits_5 (by decide) ?_
      refine lv_icmp_ge (tgt := 24) hx hb dX6_bits_7 (by decide) (fun cd1 => ?_) (fun cd1 => ?_)
      · have hw := hw.1 cd1
        refine lv_iload_n hx hb dX6_bits_24 rfl (lv_at hl 1 rfl) ?_
        exact fin_i () hx hb hr hlocks hK hS hP hD hw dX6_bits_25
      · have hw := hw.2 cd1
        refine lv_iload_n hx hb dX6_bits_10 rfl (lv_at hl 1 rfl) ?_
        refine lv_iload_n hx hb dX6_bits_11 rfl (lv_at hl 0 rfl) ?_
        refine lv_iload_n hx hb dX6_bits_12 rfl (lv_at hl 2 rfl) ?_
        refine lv_ishr hx hb dX6_bits_13 ?_
        refine lv_iconst (v := 1) hx hb dX6_bits_14 (by decide) ?_
        refine lv_iand hx hb dX6_bits_15 ?_
        refine lv_iadd hx hb dX6_bits_16 ?_
        refine lv_istore_n (lv' := [(1, .int (x1 + ((x0 >>> (x2 &&& 31)) &&& (1 : Int32)))), (0, .int x0), (2, .int x2)]) hx hb dX6_bits_17 rfl hl (by decide) rfl (fun ls hl => ?_)
        refine lv_iinc (v := (x2 + 1)) (lv' := [(2, .int (x2 + 1)), (1, .int (x1 + ((x0 >>> (x2 &&& 31)) &&& (1 : Int32)))), (0, .int x0)]) hx hb dX6_bits_18 hl (k := 2) rfl rfl (by decide) rfl (fun ls hl => ?_)
        refine lv_goto (tgt := 4) hx hb dX6_bits_21 (by decide) ?_
        exact ih x0 (x1 + ((x0 >>> (x2 &&& 31)) &&& (1 : Int32))) (x2 + 1) _ _ _ hP hD hS (lv_sub hl [2, 1, 0] rfl) hw
  unfold wn_X6_bits at hw
  refine lv_iconst (v := 0) hx hb dX6_bits_0 (by decide) ?_
  refine lv_istore_n (lv' := [(1, .int (0 : Int32)), (0, .int a0)]) hx hb dX6_bits_1 rfl hl (by decide) rfl (fun ls hl => ?_)
  refine lv_iconst (v := 0) hx hb dX6_bits_2 (by decide) ?_
  refine lv_istore_n (lv' := [(2, .int (0 : Int32)), (1, .int (0 : Int32)), (0, .int a0)]) hx hb dX6_bits_3 rfl hl (by decide) rfl (fun ls hl => ?_)
  obtain ⟨n4, hw⟩ := hw
  exact J4 n4 a0 (0 : Int32) (0 : Int32) _ _ _ hP hD hS (lv_sub hl [2, 1, 0] rfl) hw

abbrev w0_X6_isChoice (G : mG) (qu : Nat) (uu : Nat → Int32) : va_W := [(qu, .inl (gI G, (45, .inl uu)))]
set_option maxHeartbeats 8000000 in
set_option maxRecDepth 100000 in
theorem cn_X6_isChoice (l : Launch) (G : mG) (qu : Nat) (uu : Nat → Int32) (a1 : Int32) {Q : Int32 → Prop} (hw : wn_X6_isChoice uu a1 Q) (sz : Nat) :
    Met l yX6_isChoice wsX6_isChoice ({ frames := 2, cells := 0, slots := 0, locals := 47 } : Room) (va_Pc [.ref qu, .int a1] (mPre G (w0_X6_isChoice G qu uu) sz)) (va_Qi (fun (r : Int32) (u : Unit) => (r = 0 ∨ r = 1) ∧ Q r) (mBk G (va_A (w0_X6_isChoice G qu uu) sz) (fun (u : Unit) => (w0_X6_isChoice G qu uu))) (va_A (w0_X6_isChoice G qu uu) sz)) 0 0 (va_A (w0_X6_isChoice G qu uu) sz) := by
  refine ms_i (cc := cX6_isChoice) (maxL := 4) (ret := some .boolean) (post := (fun (r : Int32) (u : Unit) => (r = 0 ∨ r = 1) ∧ Q r)) (w1 := (fun (u : Unit) => (w0_X6_isChoice G qu uu))) (by decide) rfl (Nat.le_of_ble_eq_true rfl) ?_ sz
  intro p e s m below meth c A ls H locs hx hb hr hml hown hts hlocks hK hG hP hD hS hA hl
  have hown : s.vm.findClass RX6 = some m.cls := hown
  have hl : lv_has ls 4 [(0, .ref qu), (1, .int a1)] := hl
  have J34 : ∀ (k4 : Int32 → Int32 → Int32 → Prop) (hk4 : ∀ (x1 : Int32) (x2 : Int32) (x3 : Int32) (H : Heap) (locs : List Loc) (ls : Array Slot), (x2 = 0 ∨ x2 = 1) → va_P (gD G) vwCl (w0_X6_isChoice G qu uu) H → va_D A (w0_X6_isChoice G qu uu) → va_S A s.heap H locs → lv_has ls 4 [(0, .ref qu), (1, .int x1), (2, .int x2), (3, .int x3)] → k4 x1 x2 x3 → W p l e ({ frames := 2, cells := 0, slots := 0, locals := 47 } : Room) s m ([.ref qu, .int a1] : List Value).toArray below meth c H locs 0 0 (MQ below (va_Qi (fun (r : Int32) (u : Unit) => (r = 0 ∨ r = 1) ∧ Q r) (mBk G A (fun (u : Unit) => (w0_X6_isChoice G qu uu))) A) ([.ref qu, .int a1] : List Value).toArray s 0 0 A) (F0 m 4 ls [])) (x1 : Int32) (x2 : Int32) (x3 : Int32) (H : Heap) (locs : List Loc) (ls : Array Slot), (x2 = 0 ∨ x2 = 1) → va_P (gD G) vwCl (w0_X6_isChoice G qu uu) H → va_D A (w0_X6_isChoice G qu uu) → va_S A s.heap H locs → lv_has ls 4 [(0, .ref qu), (1, .int x1), (2, .int x2), (3, .int x3)] → wj_n_X6_isChoice_34 uu Q k4 x1 x2 x3 → W p l e ({ frames := 2, cells := 0, slots := 0, locals := 47 } : Room) s m ([.ref qu, .int a1] : List Value).toArray below meth c H locs 0 0 (MQ below (va_Qi (fun (r : Int32) (u : Unit) => (r = 0 ∨ r = 1) ∧ Q r) (mBk G A (fun (u : Unit) => (w0_X6_isChoice G qu uu))) A) ([.ref qu, .int a1] : List Value).toArray s 0 0 A) (F0 m 34 ls []) := by
    intro k4 hk4 x1 x2 x3 H locs ls hz_x2 hP hD hS hl hw
    unfold wj_n_X6_isChoice_34 at hw
    refine lv_iconst (v := 1) hx hb dX6_isChoice_34 (by decide) ?_
    refine lv_goto (tgt := 39) hx hb dX6_isChoice_35 (by decide) ?_
    refine lv_istore_n (lv' := [(2, .int (1 : Int32)), (0, .ref qu), (1, .int x1), (3, .int x3)]) hx hb dX6_isChoice_39 rfl hl (by decide) rfl (fun ls hl => ?_)
    refine lv_iinc (v := (x3 + 1)) (lv' := [(3, .int (x3 + 1)), (2, .int (1 : Int32)), (0, .ref qu), (1, .int x1)]) hx hb dX6_isChoice_40 hl (k := 3) rfl rfl (by decide) rfl (fun ls hl => ?_)
    refine lv_goto (tgt := 4) hx hb dX6_isChoice_43 (by decide) ?_
    exact hk4 x1 (1 : Int32) (x3 + 1) _ _ _ (Or.inr rfl) hP hD hS (lv_sub hl [2, 3, 1, 0] rfl) hw
  have J4 : ∀ (n : Nat) (x1 : Int32) (x2 : Int32) (x3 : Int32) (H : Heap) (locs : List Loc) (ls : Array Slot), (x2 = 0 ∨ x2 = 1) → va_P (gD G) vwCl (w0_X6_isChoice G qu uu) H → va_D A (w0_X6_isChoice G qu uu) → va_S A s.heap H locs → lv_has ls 4 [(0, .ref qu), (1, .int x1), (2, .int x2), (3, .int x3)] → wl_n_X6_isChoice_4 uu Q n x1 x2 x3 → W p l e ({ frames := 2, cells := 0, slots := 0, locals := 47 } : Room) s m ([.ref qu, .int a1] : List Value).toArray below meth c H locs 0 0 (MQ below (va_Qi (fun (r : Int32) (u : Unit) => (r = 0 ∨ r = 1) ∧ Q r) (mBk G A (fun (u : Unit) => (w0_X6_isChoice G qu uu))) A) ([.ref qu, .int a1] : List Value).toArray s 0 0 A) (F0 m 4 ls []) := by
    intro n
    induction n with
    | zero => intro x1 x2 x3 H locs ls hz_x2 hP hD hS hl hw; exact False.elim hw
    | succ n ih =>
      intro x1 x2 x3 H locs ls hz_x2 hP hD hS hl hw
      rw [wl_n_X6_isChoice_4] at hw
      refine lv_iload_n hx hb dX6_isChoice_4 rfl (lv_at hl 3 rfl) ?_
      refine lv_aload_n hx hb dX6_isChoice_5 rfl (lv_at hl 0 rfl) ?_
      refine lv_bipush (v := 44) hx hb dX6_isChoice_6 (by decide) ?_
      obtain ⟨h1, hw⟩ := hw
      refine va_iald hx hb hK hP 0 0 rfl rfl h1 dX6_isChoice_8 ?_
      refine lv_icmp_ge (tgt := 46) hx hb dX6_isChoice_9 (by decide) (fun cd2 => ?_) (fun cd2 => ?_)
      · have hw := hw.1 cd2
        refine lv_iload_n hx hb dX6_isChoice_46 rfl (lv_at hl 2 rfl) ?_
        exact fin_z () hx hb hr (nz hz_x2) hlocks hK hS hP hD ⟨hz_x2, hw⟩ dX6_isChoice_47
      · have hw := hw.2 cd2
        refine lv_iload_n hx hb dX6_isChoice_12 rfl (lv_at hl 2 rfl) ?_
        refine lv_if_eq (tgt := 38) hx hb dX6_isChoice_13 (by decide) (fun cd3 => ?_) (fun cd3 => ?_)
        · have hw := hw.1 cd3
          refine lv_iconst (v := 0) hx hb dX6_isChoice_38 (by decide) ?_
          refine lv_istore_n (lv' := [(2, .int (0 : Int32)), (0, .ref qu), (1, .int x1), (3, .int x3)]) hx hb dX6_isChoice_39 rfl hl (by decide) rfl (fun ls hl => ?_)
          refine lv_iinc (v := (x3 + 1)) (lv' := [(3, .int (x3 + 1)), (2, .int (0 : Int32)), (0, .ref qu), (1, .int x1)]) hx hb dX6_isChoice_40 hl (k := 3) rfl rfl (by decide) rfl (fun ls hl => ?_)
          refine lv_goto (tgt := 4) hx hb dX6_isChoice_43 (by decide) ?_
          exact ih x1 (0 : Int32) (x3 + 1) _ _ _ (Or.inl rfl) hP hD hS (lv_sub hl [2, 3, 1, 0] rfl) hw
        · have hw := hw.2 cd3
          refine lv_iload_n hx hb dX6_isChoice_16 rfl (lv_at hl 1 rfl) ?_
          refine lv_iload_n hx hb dX6_isChoice_17 rfl (lv_at hl 3 rfl) ?_
          refine lv_ishr hx hb dX6_isChoice_18 ?_
          refine lv_iconst (v := 1) hx hb dX6_isChoice_19 (by decide) ?_
          refine lv_iand hx hb dX6_isChoice_20 ?_
          refine lv_if_eq (tgt := 34) hx hb dX6_isChoice_21 (by decide) (fun cd4 => ?_) (fun cd4 => ?_)
          · have hw := hw.1 cd4
            exact J34 (fun (z0 : Int32) (z1 : Int32) (z2 : Int32) => wl_n_X6_isChoice_4 uu Q n z0 z1 z2) ih x1 x2 x3 _ _ _ hz_x2 hP hD hS hl hw
          · have hw := hw.2 cd4
            refine lv_aload_n hx hb dX6_isChoice_24 rfl (lv_at hl 0 rfl) ?_
            refine lv_iload_n hx hb dX6_isChoice_25 rfl (lv_at hl 3 rfl) ?_
            refine kcR_i (kr_S [] ⟨hx, hb, hml, hown, hts⟩ (cn_X6_foesOf l G qu uu x3 hw H.size) (va_cwS 2 hts gX6_isChoice_X6_foesOf rfl rfl rfl (by decide +kernel) ⟨Nat.le_of_ble_eq_true rfl, Nat.le_of_ble_eq_true rfl⟩) hK hG hP hD hS hA [0] rfl rfl rfl hl.1 rfl (Nat.le_of_ble_eq_true rfl) dX6_isChoice_26 ⟨Nat.le_of_ble_eq_true rfl, Nat.le_of_ble_eq_true rfl⟩) hP hD hS hA [0] rfl (fun r5 u H locs hw hP hS => ?_)
            try dsimp only at hw
            refine lv_iload_n hx hb dX6_isChoice_29 rfl (lv_at hl 1 rfl) ?_
            refine lv_iand hx hb dX6_isChoice_30 ?_
            refine lv_if_ne (tgt := 38) hx hb dX6_isChoice_31 (by decide) (fun cd6 => ?_) (fun cd6 => ?_)
            · have hw := hw.1 cd6
              refine lv_iconst (v := 0) hx hb dX6_isChoice_38 (by decide) ?_
              refine lv_istore_n (lv' := [(2, .int (0 : Int32)), (0, .ref qu), (1, .int x1), (3, .int x3)]) hx hb dX6_isChoice_39 rfl hl (by decide) rfl (fun ls hl => ?_)
              refine lv_iinc (v := (x3 + 1)) (lv' := [(3, .int (x3 + 1)), (2, .int (0 : Int32)), (0, .ref qu), (1, .int x1)]) hx hb dX6_isChoice_40 hl (k := 3) rfl rfl (by decide) rfl (fun ls hl => ?_)
              refine lv_goto (tgt := 4) hx hb dX6_isChoice_43 (by decide) ?_
              exact ih x1 (0 : Int32) (x3 + 1) _ _ _ (Or.inl rfl) hP hD hS (lv_sub hl [2, 3, 1, 0] rfl) hw
            · have hw := hw.2 cd6
              exact J34 (fun (z0 : Int32) (z1 : Int32) (z2 : Int32) => wl_n_X6_isChoice_4 uu Q n z0 z1 z2) ih x1 x2 x3 _ _ _ hz_x2 hP hD hS hl hw
  unfold wn_X6_isChoice at hw
  refine lv_iconst (v := 1) hx hb dX6_isChoice_0 (by decide) ?_
  refine lv_istore_n (lv' := [(2, .int (1 : Int32)), (0, .ref qu), (1, .int a1)]) hx hb dX6_isChoice_1 rfl hl (by decide) rfl (fun ls hl => ?_)
  refine lv_iconst (v := 0) hx hb dX6_isChoice_2 (by decide) ?_
  refine lv_istore_n (lv' := [(3, .int (0 : Int32)), (2, .int (1 : Int32)), (0, .ref qu), (1, .int a1)]) hx hb dX6_isChoice_3 rfl hl (by decide) rfl (fun ls hl => ?_)
  obtain ⟨n4, hw⟩ := hw
  exact J4 n4 a1 (1 : Int32) (0 : Int32) _ _ _ (Or.inr rfl) hP hD hS (lv_sub hl [2, 3, 1, 0] rfl) hw

abbrev w0_X6_pairs (G : mG) (qy : Nat) (qyn : Nat) (qyt : Nat) (qyu : Nat) (qyf : Nat) (qyr : Nat) (qyb : Nat) (qyk : Nat) (qyi : Nat) (qyx : Nat) (yn : Nat → Int32) (yt : Nat → Int32) (yu : Nat → Int32) (yf : Nat → Int32) (yr : Nat → Int32) (yb : Nat → Int32) (yk : Nat → Int32) (yi : Nat → Int32) (yx : Nat → Int32) (za : Int32) (zs : Int32) (zl : Int32) (zt : Int32) (zg : Int32) (zr : Int32) (zm : Int32) : va_W := [(qy, .inr (6, [.int za, .ref qyn, .ref qyt, .ref qyu, .ref qyf, .ref qyr, .ref qyb, .int zs, .ref qyk, .ref qyi, .ref qyx, .int zl, .int zt, .int zg, .int zr, .int zm])), (qyn, .inl (gI G, (45, .inl yn))), (qyt, .inl (gI G, (45, .inl yt))), (qyu, .inl (gI G, (16384, .inl yu))), (qyf, .inl (gI G, (14, .inl yf))), (qyr, .inl (gI G, (14, .inl yr))), (qyb, .inl (gI G, (270, .inl yb))), (qyk, .inl (gI G, (90, .inl yk))), (qyi, .inl (gZ G, (2, .inl yi))), (qyx, .inl (gI G, (60, .inl yx)))]
set_option maxRecDepth 100000 in
theorem k_X6_pairs_inX6 : ∀ w ∈ u_ws RX6 TX6 16, w ∈ wsX6_pairs := by decide +kernel
set_option maxRecDepth 100000 in
theorem k_X6_pairs_f7 : Cond.fieldLink RX6 7 "RehearsalRoomModel" "now" "[I" ∈ wsX6_pairs := by decide +kernel
set_option maxHeartbeats 8000000 in
set_option maxRecDepth 100000 in
theorem cn_X6_pairs (l : Launch) (G : mG) (qy : Nat) (qyn : Nat) (qyt : Nat) (qyu : Nat) (qyf : Nat) (qyr : Nat) (qyb : Nat) (qyk : Nat) (qyi : Nat) (qyx : Nat) (yn : Nat → Int32) (yt : Nat → Int32) (yu : Nat → Int32) (yf : Nat → Int32) (yr : Nat → Int32) (yb : Nat → Int32) (yk : Nat → Int32) (yi : Nat → Int32) (yx : Nat → Int32) (za : Int32) (zs : Int32) (zl : Int32) (zt : Int32) (zg : Int32) (zr : Int32) (zm : Int32) {Q : Int32 → Prop} (hw : wn_X6_pairs yn Q) (sz : Nat) :
    Met l yX6_pairs wsX6_pairs ({ frames := 2, cells := 0, slots := 0, locals := 47 } : Room) (va_Pc [.ref qy] (mPre G (w0_X6_pairs G qy qyn qyt qyu qyf qyr qyb qyk qyi qyx yn yt yu yf yr yb yk yi yx za zs zl zt zg zr zm) sz)) (va_Qi (fun (r : Int32) (u : Unit) => Q r) (mBk G (va_A (w0_X6_pairs G qy qyn qyt qyu qyf qyr qyb qyk qyi qyx yn yt yu yf yr yb yk yi yx za zs zl zt zg zr zm) sz) (fun (u : Unit) => (w0_X6_pairs G qy qyn qyt qyu qyf qyr qyb qyk qyi qyx yn yt yu yf yr yb yk yi yx za zs zl zt zg zr zm))) (va_A (w0_X6_pairs G qy qyn qyt qyu qyf qyr qyb qyk qyi qyx yn yt yu yf yr yb yk yi yx za zs zl zt zg zr zm) sz)) 0 0 (va_A (w0_X6_pairs G qy qyn qyt qyu qyf qyr qyb qyk qyi qyx yn yt yu yf yr yb yk yi yx za zs zl zt zg zr zm) sz) := by
  refine ms_i (cc := cX6_pairs) (maxL := 3) (ret := some .int) (post := (fun (r : Int32) (u : Unit) => Q r)) (w1 := (fun (u : Unit) => (w0_X6_pairs G qy qyn qyt qyu qyf qyr qyb qyk qyi qyx yn yt yu yf yr yb yk yi yx za zs zl zt zg zr zm))) (by decide) rfl (Nat.le_of_ble_eq_true rfl) ?_ sz
  intro p e s m below meth c A ls H locs hx hb hr hml hown hts hlocks hK hG hP hD hS hA hl
  have hown : s.vm.findClass RX6 = some m.cls := hown
  have hl : lv_has ls 3 [(0, .ref qy)] := hl
  have J4 : ∀ (n : Nat) (x1 : Int32) (x2 : Int32) (H : Heap) (locs : List Loc) (ls : Array Slot), va_P (gD G) vwCl (w0_X6_pairs G qy qyn qyt qyu qyf qyr qyb qyk qyi qyx yn yt yu yf yr yb yk yi yx za zs zl zt zg zr zm) H → va_D A (w0_X6_pairs G qy qyn qyt qyu qyf qyr qyb qyk qyi qyx yn yt yu yf yr yb yk yi yx za zs zl zt zg zr zm) → va_S A s.heap H locs → lv_has ls 3 [(0, .ref qy), (1, .int x1), (2, .int x2)] → wl_n_X6_pairs_4 yn Q n x1 x2 → W p l e ({ frames := 2, cells := 0, slots := 0, locals := 47 } : Room) s m ([.ref qy] : List Value).toArray below meth c H locs 0 0 (MQ below (va_Qi (fun (r : Int32) (u : Unit) => Q r) (mBk G A (fun (u : Unit) => (w0_X6_pairs G qy qyn qyt qyu qyf qyr qyb qyk qyi qyx yn yt yu yf yr yb yk yi yx za zs zl zt zg zr zm))) A) ([.ref qy] : List Value).toArray s 0 0 A) (F0 m 4 ls []) := by
    intro n
    induction n with
    | zero => intro x1 x2 H locs ls hP hD hS hl hw; exact False.elim hw
    | succ n ih =>
      intro x1 x2 H locs ls hP hD hS hl hw
      rw [wl_n_X6_pairs_4] at hw
      refine lv_iload_n hx hb dX6_pairs_4 rfl (lv_at hl 2 rfl) ?_
      refine lv_aload_n hx hb dX6_pairs_5 rfl (lv_at hl 0 rfl) ?_
      refine va_get (D := gD G) (ci := 6) (v := .ref qyn) (C := RX6) (T := TX6) (N := 16) hx hb hts k_X6_pairs_inX6 hown hK hP 0 rfl rfl 1 (by decide) (hts _ k_X6_pairs_f7) (fun _ h9 => h9) rfl dX6_pairs_6 ?_
      refine lv_bipush (v := 44) hx hb dX6_pairs_9 (by decide) ?_
      obtain ⟨h1, hw⟩ := hw
      refine va_iald hx hb hK hP 1 0 rfl rfl h1 dX6_pairs_11 ?_
      refine lv_icmp_ge (tgt := 35) hx hb dX6_pairs_12 (by decide) (fun cd2 => ?_) (fun cd2 => ?_)
      · have hw := hw.1 cd2
        refine lv_iload_n hx hb dX6_pairs_35 rfl (lv_at hl 1 rfl) ?_
        refine lv_iconst (v := 2) hx hb dX6_pairs_36 (by decide) ?_
        refine lv_idiv hx hb dX6_pairs_37 (by decide) ?_
        exact fin_i () hx hb hr hlocks hK hS hP hD hw dX6_pairs_38
      · have hw := hw.2 cd2
        refine lv_iload_n hx hb dX6_pairs_15 rfl (lv_at hl 1 rfl) ?_
        refine lv_aload_n hx hb dX6_pairs_16 rfl (lv_at hl 0 rfl) ?_
        refine va_get (D := gD G) (ci := 6) (v := .ref qyn) (C := RX6) (T := TX6) (N := 16) hx hb hts k_X6_pairs_inX6 hown hK hP 0 rfl rfl 1 (by decide) (hts _ k_X6_pairs_f7) (fun _ h9 => h9) rfl dX6_pairs_17 ?_
        refine lv_iload_n hx hb dX6_pairs_20 rfl (lv_at hl 2 rfl) ?_
        refine kcR_i (kr_S [.int x1] ⟨hx, hb, hml, hown, hts⟩ (cn_X6_foesOf l G qyn yn x2 hw H.size) (va_cwS 2 hts gX6_pairs_X6_foesOf rfl rfl rfl (by decide +kernel) ⟨Nat.le_of_ble_eq_true rfl, Nat.le_of_ble_eq_true rfl⟩) hK hG hP hD hS hA [1] rfl rfl rfl hl.1 rfl (Nat.le_of_ble_eq_true rfl) dX6_pairs_21 ⟨Nat.le_of_ble_eq_true rfl, Nat.le_of_ble_eq_true rfl⟩) hP hD hS hA [1] rfl (fun r3 u H locs hw hP hS => ?_)
        try dsimp only at hw
        refine kcR_i (kr_S [.int x1] ⟨hx, hb, hml, hown, hts⟩ (cn_X6_bits l G r3 hw H.size) (va_cwS 1 hts gX6_pairs_X6_bits rfl rfl rfl (by decide +kernel) ⟨Nat.le_of_ble_eq_true rfl, Nat.le_of_ble_eq_true rfl⟩) hK hG hP hD hS hA [] rfl rfl rfl hl.1 rfl (Nat.le_of_ble_eq_true rfl) dX6_pairs_24 ⟨Nat.le_of_ble_eq_true rfl, Nat.le_of_ble_eq_true rfl⟩) hP hD hS hA [] rfl (fun r4 u H locs hw hP hS => ?_)
        try dsimp only at hw
        refine lv_iadd hx hb dX6_pairs_27 ?_
        refine lv_istore_n (lv' := [(1, .int (x1 + r4)), (0, .ref qy), (2, .int x2)]) hx hb dX6_pairs_28 rfl hl (by decide) rfl (fun ls hl => ?_)
        refine lv_iinc (v := (x2 + 1)) (lv' := [(2, .int (x2 + 1)), (1, .int (x1 + r4)), (0, .ref qy)]) hx hb dX6_pairs_29 hl (k := 2) rfl rfl (by decide) rfl (fun ls hl => ?_)
        refine lv_goto (tgt := 4) hx hb dX6_pairs_32 (by decide) ?_
        exact ih (x1 + r4) (x2 + 1) _ _ _ hP hD hS (lv_sub hl [2, 1, 0] rfl) hw
  unfold wn_X6_pairs at hw
  refine lv_iconst (v := 0) hx hb dX6_pairs_0 (by decide) ?_
  refine lv_istore_n (lv' := [(1, .int (0 : Int32)), (0, .ref qy)]) hx hb dX6_pairs_1 rfl hl (by decide) rfl (fun ls hl => ?_)
  refine lv_iconst (v := 0) hx hb dX6_pairs_2 (by decide) ?_
  refine lv_istore_n (lv' := [(2, .int (0 : Int32)), (1, .int (0 : Int32)), (0, .ref qy)]) hx hb dX6_pairs_3 rfl hl (by decide) rfl (fun ls hl => ?_)
  obtain ⟨n4, hw⟩ := hw
  exact J4 n4 (0 : Int32) (0 : Int32) _ _ _ hP hD hS (lv_sub hl [2, 1, 0] rfl) hw

abbrev w0_X6_give (G : mG) (qy : Nat) (qyn : Nat) (qyt : Nat) (qyu : Nat) (qyf : Nat) (qyr : Nat) (qyb : Nat) (qyk : Nat) (qyi : Nat) (qyx : Nat) (yn : Nat → Int32) (yt : Nat → Int32) (yu : Nat → Int32) (yf : Nat → Int32) (yr : Nat → Int32) (yb : Nat → Int32) (yk : Nat → Int32) (yi : Nat → Int32) (yx : Nat → Int32) (za : Int32) (zs : Int32) (zl : Int32) (zt : Int32) (zg : Int32) (zr : Int32) (zm : Int32) : va_W := [(qy, .inr (6, [.int za, .ref qyn, .ref qyt, .ref qyu, .ref qyf, .ref qyr, .ref qyb, .int zs, .ref qyk, .ref qyi, .ref qyx, .int zl, .int zt, .int zg, .int zr, .int zm])), (qyn, .inl (gI G, (45, .inl yn))), (qyt, .inl (gI G, (45, .inl yt))), (qyu, .inl (gI G, (16384, .inl yu))), (qyf, .inl (gI G, (14, .inl yf))), (qyr, .inl (gI G, (14, .inl yr))), (qyb, .inl (gI G, (270, .inl yb))), (qyk, .inl (gI G, (90, .inl yk))), (qyi, .inl (gZ G, (2, .inl yi))), (qyx, .inl (gI G, (60, .inl yx)))]
set_option maxRecDepth 100000 in
theorem k_X6_give_inX6 : ∀ w ∈ u_ws RX6 TX6 16, w ∈ wsX6_give := by decide +kernel
set_option maxRecDepth 100000 in
theorem k_X6_give_f7 : Cond.fieldLink RX6 7 "RehearsalRoomModel" "now" "[I" ∈ wsX6_give := by decide +kernel
set_option maxRecDepth 100000 in
theorem k_X6_give_f22 : Cond.fieldLink RX6 22 "RehearsalRoomModel" "rooms" "[I" ∈ wsX6_give := by decide +kernel
set_option maxHeartbeats 8000000 in
set_option maxRecDepth 100000 in
theorem cn_X6_give (l : Launch) (G : mG) (qy : Nat) (qyn : Nat) (qyt : Nat) (qyu : Nat) (qyf : Nat) (qyr : Nat) (qyb : Nat) (qyk : Nat) (qyi : Nat) (qyx : Nat) (yn : Nat → Int32) (yt : Nat → Int32) (yu : Nat → Int32) (yf : Nat → Int32) (yr : Nat → Int32) (yb : Nat → Int32) (yk : Nat → Int32) (yi : Nat → Int32) (yx : Nat → Int32) (za : Int32) (zs : Int32) (zl : Int32) (zt : Int32) (zg : Int32) (zr : Int32) (zm : Int32) {Q : Int32 → (Nat → Int32) → Prop} (hw : wn_X6_give yn yr Q) (sz : Nat) :
    Met l yX6_give wsX6_give ({ frames := 1, cells := 0, slots := 0, locals := 24 } : Room) (va_Pc [.ref qy] (mPre G (w0_X6_give G qy qyn qyt qyu qyf qyr qyb qyk qyi qyx yn yt yu yf yr yb yk yi yx za zs zl zt zg zr zm) sz)) (va_Qi (fun (r : Int32) (u : (Nat → Int32)) => Q r u) (mBk G (va_A (w0_X6_give G qy qyn qyt qyu qyf qyr qyb qyk qyi qyx yn yt yu yf yr yb yk yi yx za zs zl zt zg zr zm) sz) (fun (u : (Nat → Int32)) => (w0_X6_give G qy qyn qyt qyu qyf qyr qyb qyk qyi qyx yn yt yu yf u yb yk yi yx za zs zl zt zg zr zm))) (va_A (w0_X6_give G qy qyn qyt qyu qyf qyr qyb qyk qyi qyx yn yt yu yf yr yb yk yi yx za zs zl zt zg zr zm) sz)) 0 0 (va_A (w0_X6_give G qy qyn qyt qyu qyf qyr qyb qyk qyi qyx yn yt yu yf yr yb yk yi yx za zs zl zt zg zr zm) sz) := by
  refine ms_i (cc := cX6_give) (maxL := 8) (ret := some .int) (post := (fun (r : Int32) (u : (Nat → Int32)) => Q r u)) (w1 := (fun (u : (Nat → Int32)) => (w0_X6_give G qy qyn qyt qyu qyf qyr qyb qyk qyi qyx yn yt yu yf u yb yk yi yx za zs zl zt zg zr zm))) (by decide) rfl (Nat.le_of_ble_eq_true rfl) ?_ sz
  intro p e s m below meth c A ls H locs hx hb hr hml hown hts hlocks hK hG hP hD hS hA hl
  have hown : s.vm.findClass RX6 = some m.cls := hown
  have hl : lv_has ls 8 [(0, .ref qy)] := hl
  have J175 : ∀ (k6 : (Nat → Int32) → Int32 → Int32 → Int32 → Prop) (hk6 : ∀ (yr : Nat → Int32) (x1 : Int32) (x2 : Int32) (x3 : Int32) (H : Heap) (locs : List Loc) (ls : Array Slot), va_P (gD G) vwCl (w0_X6_give G qy qyn qyt qyu qyf qyr qyb qyk qyi qyx yn yt yu yf yr yb yk yi yx za zs zl zt zg zr zm) H → va_D A (w0_X6_give G qy qyn qyt qyu qyf qyr qyb qyk qyi qyx yn yt yu yf yr yb yk yi yx za zs zl zt zg zr zm) → va_S A s.heap H locs → lv_has ls 8 [(0, .ref qy), (1, .int x1), (2, .int x2), (3, .int x3)] → k6 yr x1 x2 x3 → W p l e ({ frames := 1, cells := 0, slots := 0, locals := 24 } : Room) s m ([.ref qy] : List Value).toArray below meth c H locs 0 0 (MQ below (va_Qi (fun (r : Int32) (u : (Nat → Int32)) => Q r u) (mBk G A (fun (u : (Nat → Int32)) => (w0_X6_give G qy qyn qyt qyu qyf qyr qyb qyk qyi qyx yn yt yu yf u yb yk yi yx za zs zl zt zg zr zm))) A) ([.ref qy] : List Value).toArray s 0 0 A) (F0 m 6 ls [])) (n : Nat) (yr : Nat → Int32) (x1 : Int32) (x2 : Int32) (x3 : Int32) (x4 : Int32) (x5 : Int32) (x6 : Int32) (H : Heap) (locs : List Loc) (ls : Array Slot), va_P (gD G) vwCl (w0_X6_give G qy qyn qyt qyu qyf qyr qyb qyk qyi qyx yn yt yu yf yr yb yk yi yx za zs zl zt zg zr zm) H → va_D A (w0_X6_give G qy qyn qyt qyu qyf qyr qyb qyk qyi qyx yn yt yu yf yr yb yk yi yx za zs zl zt zg zr zm) → va_S A s.heap H locs → lv_has ls 8 [(0, .ref qy), (1, .int x1), (2, .int x2), (3, .int x3), (4, .int x4), (5, .int x5), (6, .int x6)] → wl_n_X6_give_175 yn Q k6 n yr x1 x2 x3 x4 x5 x6 → W p l e ({ frames := 1, cells := 0, slots := 0, locals := 24 } : Room) s m ([.ref qy] : List Value).toArray below meth c H locs 0 0 (MQ below (va_Qi (fun (r : Int32) (u : (Nat → Int32)) => Q r u) (mBk G A (fun (u : (Nat → Int32)) => (w0_X6_give G qy qyn qyt qyu qyf qyr qyb qyk qyi qyx yn yt yu yf u yb yk yi yx za zs zl zt zg zr zm))) A) ([.ref qy] : List Value).toArray s 0 0 A) (F0 m 175 ls []) := by
    intro k6 hk6 n
    induction n with
    | zero => intro yr x1 x2 x3 x4 x5 x6 H locs ls hP hD hS hl hw; exact False.elim hw
    | succ n ih =>
      intro yr x1 x2 x3 x4 x5 x6 H locs ls hP hD hS hl hw
      rw [wl_n_X6_give_175] at hw
      refine lv_iload hx hb dX6_give_175 (lv_at hl 5 rfl) ?_
      refine lv_iload hx hb dX6_give_177 (lv_at hl 6 rfl) ?_
      refine lv_ishr hx hb dX6_give_179 ?_
      refine lv_iconst (v := 1) hx hb dX6_give_180 (by decide) ?_
      refine lv_iand hx hb dX6_give_181 ?_
      refine lv_iconst (v := 1) hx hb dX6_give_182 (by decide) ?_
      refine lv_icmp_ne (tgt := 192) hx hb dX6_give_183 (by decide) (fun cd7 => ?_) (fun cd7 => ?_)
      · have hw := hw.1 cd7
        refine lv_aload_n hx hb dX6_give_192 rfl (lv_at hl 0 rfl) ?_
        refine va_get (D := gD G) (ci := 6) (v := .ref qyr) (C := RX6) (T := TX6) (N := 16) hx hb hts k_X6_give_inX6 hown hK hP 0 rfl rfl 5 (by decide) (hts _ k_X6_give_f22) (fun _ h9 => h9) rfl dX6_give_193 ?_
        refine lv_iload hx hb dX6_give_196 (lv_at hl 4 rfl) ?_
        refine lv_iload hx hb dX6_give_198 (lv_at hl 6 rfl) ?_
        obtain ⟨h8, hw⟩ := hw
        refine va_iast hx hb hK hP hD hS 5 0 rfl rfl h8 dX6_give_200 (fun H locs hP hD hS => ?_)
        have hP : va_P (gD G) vwCl (w0_X6_give G qy qyn qyt qyu qyf qyr qyb qyk qyi qyx yn yt yu yf (upd yr x4.toNatClampNeg x6) yb yk yi yx za zs zl zt zg zr zm) H := hP
        have hD : va_D A (w0_X6_give G qy qyn qyt qyu qyf qyr qyb qyk qyi qyx yn yt yu yf (upd yr x4.toNatClampNeg x6) yb yk yi yx za zs zl zt zg zr zm) := hD
        refine lv_iload_n hx hb dX6_give_201 rfl (lv_at hl 1 rfl) ?_
        refine lv_iconst (v := 1) hx hb dX6_give_202 (by decide) ?_
        refine lv_iload hx hb dX6_give_203 (lv_at hl 4 rfl) ?_
        refine lv_ishl hx hb dX6_give_205 ?_
        refine lv_ior hx hb dX6_give_206 ?_
        refine lv_istore_n (lv' := [(1, .int (x1 ||| ((1 : Int32) <<< (x4 &&& 31)))), (0, .ref qy), (2, .int x2), (3, .int x3), (4, .int x4), (5, .int x5), (6, .int x6)]) hx hb dX6_give_207 rfl hl (by decide) rfl (fun ls hl => ?_)
        refine lv_iload hx hb dX6_give_208 (lv_at hl 6 rfl) ?_
        refine lv_iconst (v := 1) hx hb dX6_give_210 (by decide) ?_
        refine lv_iadd hx hb dX6_give_211 ?_
        refine lv_iload_n hx hb dX6_give_212 rfl (lv_at hl 2 rfl) ?_
        refine lv_icmp_le (tgt := 223) hx hb dX6_give_213 (by decide) (fun cd9 => ?_) (fun cd9 => ?_)
        · have hw := hw.1 cd9
          refine lv_iload_n hx hb dX6_give_223 rfl (lv_at hl 2 rfl) ?_
          refine lv_istore_n (lv' := [(2, .int x2), (1, .int (x1 ||| ((1 : Int32) <<< (x4 &&& 31)))), (0, .ref qy), (3, .int x3), (4, .int x4), (5, .int x5), (6, .int x6)]) hx hb dX6_give_224 rfl hl (by decide) rfl (fun ls hl => ?_)
          refine lv_iinc (v := (x3 + 1)) (lv' := [(3, .int (x3 + 1)), (2, .int x2), (1, .int (x1 ||| ((1 : Int32) <<< (x4 &&& 31)))), (0, .ref qy), (4, .int x4), (5, .int x5), (6, .int x6)]) hx hb dX6_give_225 hl (k := 3) rfl rfl (by decide) rfl (fun ls hl => ?_)
          refine lv_goto (tgt := 6) hx hb dX6_give_228 (by decide) ?_
          exact hk6 (upd yr x4.toNatClampNeg x6) (x1 ||| ((1 : Int32) <<< (x4 &&& 31))) x2 (x3 + 1) _ _ _ hP hD hS (lv_sub hl [3, 2, 1, 0] rfl) hw
        · have hw := hw.2 cd9
          refine lv_iload hx hb dX6_give_216 (lv_at hl 6 rfl) ?_
          refine lv_iconst (v := 1) hx hb dX6_give_218 (by decide) ?_
          refine lv_iadd hx hb dX6_give_219 ?_
          refine lv_goto (tgt := 224) hx hb dX6_give_220 (by decide) ?_
          refine lv_istore_n (lv' := [(2, .int (x6 + (1 : Int32))), (1, .int (x1 ||| ((1 : Int32) <<< (x4 &&& 31)))), (0, .ref qy), (3, .int x3), (4, .int x4), (5, .int x5), (6, .int x6)]) hx hb dX6_give_224 rfl hl (by decide) rfl (fun ls hl => ?_)
          refine lv_iinc (v := (x3 + 1)) (lv' := [(3, .int (x3 + 1)), (2, .int (x6 + (1 : Int32))), (1, .int (x1 ||| ((1 : Int32) <<< (x4 &&& 31)))), (0, .ref qy), (4, .int x4), (5, .int x5), (6, .int x6)]) hx hb dX6_give_225 hl (k := 3) rfl rfl (by decide) rfl (fun ls hl => ?_)
          refine lv_goto (tgt := 6) hx hb dX6_give_228 (by decide) ?_
          exact hk6 (upd yr x4.toNatClampNeg x6) (x1 ||| ((1 : Int32) <<< (x4 &&& 31))) (x6 + (1 : Int32)) (x3 + 1) _ _ _ hP hD hS (lv_sub hl [3, 2, 1, 0] rfl) hw
      · have hw := hw.2 cd7
        refine lv_iinc (v := (x6 + 1)) (lv' := [(6, .int (x6 + 1)), (0, .ref qy), (1, .int x1), (2, .int x2), (3, .int x3), (4, .int x4), (5, .int x5)]) hx hb dX6_give_186 hl (k := 6) rfl rfl (by decide) rfl (fun ls hl => ?_)
        refine lv_goto (tgt := 175) hx hb dX6_give_189 (by decide) ?_
        exact ih yr x1 x2 x3 x4 x5 (x6 + 1) _ _ _ hP hD hS (lv_sub hl [1, 2, 3, 4, 5, 6, 0] rfl) hw
  have J163 : ∀ (k100 : (Nat → Int32) → Int32 → Int32 → Int32 → Int32 → Int32 → Int32 → Prop) (hk100 : ∀ (yr : Nat → Int32) (x1 : Int32) (x2 : Int32) (x3 : Int32) (x4 : Int32) (x5 : Int32) (x6 : Int32) (H : Heap) (locs : List Loc) (ls : Array Slot), va_P (gD G) vwCl (w0_X6_give G qy qyn qyt qyu qyf qyr qyb qyk qyi qyx yn yt yu yf yr yb yk yi yx za zs zl zt zg zr zm) H → va_D A (w0_X6_give G qy qyn qyt qyu qyf qyr qyb qyk qyi qyx yn yt yu yf yr yb yk yi yx za zs zl zt zg zr zm) → va_S A s.heap H locs → lv_has ls 8 [(0, .ref qy), (1, .int x1), (2, .int x2), (3, .int x3), (4, .int x4), (5, .int x5), (6, .int x6)] → k100 yr x1 x2 x3 x4 x5 x6 → W p l e ({ frames := 1, cells := 0, slots := 0, locals := 24 } : Room) s m ([.ref qy] : List Value).toArray below meth c H locs 0 0 (MQ below (va_Qi (fun (r : Int32) (u : (Nat → Int32)) => Q r u) (mBk G A (fun (u : (Nat → Int32)) => (w0_X6_give G qy qyn qyt qyu qyf qyr qyb qyk qyi qyx yn yt yu yf u yb yk yi yx za zs zl zt zg zr zm))) A) ([.ref qy] : List Value).toArray s 0 0 A) (F0 m 100 ls [])) (k6 : (Nat → Int32) → Int32 → Int32 → Int32 → Prop) (hk6 : ∀ (yr : Nat → Int32) (x1 : Int32) (x2 : Int32) (x3 : Int32) (H : Heap) (locs : List Loc) (ls : Array Slot), va_P (gD G) vwCl (w0_X6_give G qy qyn qyt qyu qyf qyr qyb qyk qyi qyx yn yt yu yf yr yb yk yi yx za zs zl zt zg zr zm) H → va_D A (w0_X6_give G qy qyn qyt qyu qyf qyr qyb qyk qyi qyx yn yt yu yf yr yb yk yi yx za zs zl zt zg zr zm) → va_S A s.heap H locs → lv_has ls 8 [(0, .ref qy), (1, .int x1), (2, .int x2), (3, .int x3)] → k6 yr x1 x2 x3 → W p l e ({ frames := 1, cells := 0, slots := 0, locals := 24 } : Room) s m ([.ref qy] : List Value).toArray below meth c H locs 0 0 (MQ below (va_Qi (fun (r : Int32) (u : (Nat → Int32)) => Q r u) (mBk G A (fun (u : (Nat → Int32)) => (w0_X6_give G qy qyn qyt qyu qyf qyr qyb qyk qyi qyx yn yt yu yf u yb yk yi yx za zs zl zt zg zr zm))) A) ([.ref qy] : List Value).toArray s 0 0 A) (F0 m 6 ls [])) (yr : Nat → Int32) (x1 : Int32) (x2 : Int32) (x3 : Int32) (x4 : Int32) (x5 : Int32) (x6 : Int32) (x7 : Int32) (y0 : Int32) (y1 : Int32) (H : Heap) (locs : List Loc) (ls : Array Slot), (x7 = 0 ∨ x7 = 1) → va_P (gD G) vwCl (w0_X6_give G qy qyn qyt qyu qyf qyr qyb qyk qyi qyx yn yt yu yf yr yb yk yi yx za zs zl zt zg zr zm) H → va_D A (w0_X6_give G qy qyn qyt qyu qyf qyr qyb qyk qyi qyx yn yt yu yf yr yb yk yi yx za zs zl zt zg zr zm) → va_S A s.heap H locs → lv_has ls 8 [(0, .ref qy), (1, .int x1), (2, .int x2), (3, .int x3), (4, .int x4), (5, .int x5), (6, .int x6), (7, .int x7)] → wj_n_X6_give_163 yn Q k100 k6 yr x1 x2 x3 x4 x5 x6 x7 y0 y1 → W p l e ({ frames := 1, cells := 0, slots := 0, locals := 24 } : Room) s m ([.ref qy] : List Value).toArray below meth c H locs 0 0 (MQ below (va_Qi (fun (r : Int32) (u : (Nat → Int32)) => Q r u) (mBk G A (fun (u : (Nat → Int32)) => (w0_X6_give G qy qyn qyt qyu qyf qyr qyb qyk qyi qyx yn yt yu yf u yb yk yi yx za zs zl zt zg zr zm))) A) ([.ref qy] : List Value).toArray s 0 0 A) (F0 m 163 ls [.int y1, .int y0]) := by
    intro k100 hk100 k6 hk6 yr x1 x2 x3 x4 x5 x6 x7 y0 y1 H locs ls hz_x7 hP hD hS hl hw
    unfold wj_n_X6_give_163 at hw
    refine lv_ior hx hb dX6_give_163 ?_
    refine lv_istore (lv' := [(5, .int (y0 ||| y1)), (0, .ref qy), (1, .int x1), (2, .int x2), (3, .int x3), (4, .int x4), (6, .int x6), (7, .int x7)]) hx hb dX6_give_164 hl (by decide) rfl (fun ls hl => ?_)
    refine lv_iinc (v := (x6 + 1)) (lv' := [(6, .int (x6 + 1)), (5, .int (y0 ||| y1)), (0, .ref qy), (1, .int x1), (2, .int x2), (3, .int x3), (4, .int x4), (7, .int x7)]) hx hb dX6_give_166 hl (k := 6) rfl rfl (by decide) rfl (fun ls hl => ?_)
    refine lv_goto (tgt := 100) hx hb dX6_give_169 (by decide) ?_
    exact hk100 yr x1 x2 x3 x4 (y0 ||| y1) (x6 + 1) _ _ _ hP hD hS (lv_sub hl [2, 3, 4, 5, 6, 1, 0] rfl) hw
  have J141 : ∀ (k100 : (Nat → Int32) → Int32 → Int32 → Int32 → Int32 → Int32 → Int32 → Prop) (hk100 : ∀ (yr : Nat → Int32) (x1 : Int32) (x2 : Int32) (x3 : Int32) (x4 : Int32) (x5 : Int32) (x6 : Int32) (H : Heap) (locs : List Loc) (ls : Array Slot), va_P (gD G) vwCl (w0_X6_give G qy qyn qyt qyu qyf qyr qyb qyk qyi qyx yn yt yu yf yr yb yk yi yx za zs zl zt zg zr zm) H → va_D A (w0_X6_give G qy qyn qyt qyu qyf qyr qyb qyk qyi qyx yn yt yu yf yr yb yk yi yx za zs zl zt zg zr zm) → va_S A s.heap H locs → lv_has ls 8 [(0, .ref qy), (1, .int x1), (2, .int x2), (3, .int x3), (4, .int x4), (5, .int x5), (6, .int x6)] → k100 yr x1 x2 x3 x4 x5 x6 → W p l e ({ frames := 1, cells := 0, slots := 0, locals := 24 } : Room) s m ([.ref qy] : List Value).toArray below meth c H locs 0 0 (MQ below (va_Qi (fun (r : Int32) (u : (Nat → Int32)) => Q r u) (mBk G A (fun (u : (Nat → Int32)) => (w0_X6_give G qy qyn qyt qyu qyf qyr qyb qyk qyi qyx yn yt yu yf u yb yk yi yx za zs zl zt zg zr zm))) A) ([.ref qy] : List Value).toArray s 0 0 A) (F0 m 100 ls [])) (k6 : (Nat → Int32) → Int32 → Int32 → Int32 → Prop) (hk6 : ∀ (yr : Nat → Int32) (x1 : Int32) (x2 : Int32) (x3 : Int32) (H : Heap) (locs : List Loc) (ls : Array Slot), va_P (gD G) vwCl (w0_X6_give G qy qyn qyt qyu qyf qyr qyb qyk qyi qyx yn yt yu yf yr yb yk yi yx za zs zl zt zg zr zm) H → va_D A (w0_X6_give G qy qyn qyt qyu qyf qyr qyb qyk qyi qyx yn yt yu yf yr yb yk yi yx za zs zl zt zg zr zm) → va_S A s.heap H locs → lv_has ls 8 [(0, .ref qy), (1, .int x1), (2, .int x2), (3, .int x3)] → k6 yr x1 x2 x3 → W p l e ({ frames := 1, cells := 0, slots := 0, locals := 24 } : Room) s m ([.ref qy] : List Value).toArray below meth c H locs 0 0 (MQ below (va_Qi (fun (r : Int32) (u : (Nat → Int32)) => Q r u) (mBk G A (fun (u : (Nat → Int32)) => (w0_X6_give G qy qyn qyt qyu qyf qyr qyb qyk qyi qyx yn yt yu yf u yb yk yi yx za zs zl zt zg zr zm))) A) ([.ref qy] : List Value).toArray s 0 0 A) (F0 m 6 ls [])) (yr : Nat → Int32) (x1 : Int32) (x2 : Int32) (x3 : Int32) (x4 : Int32) (x5 : Int32) (x6 : Int32) (y0 : Int32) (H : Heap) (locs : List Loc) (ls : Array Slot), (y0 = 0 ∨ y0 = 1) → va_P (gD G) vwCl (w0_X6_give G qy qyn qyt qyu qyf qyr qyb qyk qyi qyx yn yt yu yf yr yb yk yi yx za zs zl zt zg zr zm) H → va_D A (w0_X6_give G qy qyn qyt qyu qyf qyr qyb qyk qyi qyx yn yt yu yf yr yb yk yi yx za zs zl zt zg zr zm) → va_S A s.heap H locs → lv_has ls 8 [(0, .ref qy), (1, .int x1), (2, .int x2), (3, .int x3), (4, .int x4), (5, .int x5), (6, .int x6)] → wj_n_X6_give_141 yn Q k100 k6 yr x1 x2 x3 x4 x5 x6 y0 → W p l e ({ frames := 1, cells := 0, slots := 0, locals := 24 } : Room) s m ([.ref qy] : List Value).toArray below meth c H locs 0 0 (MQ below (va_Qi (fun (r : Int32) (u : (Nat → Int32)) => Q r u) (mBk G A (fun (u : (Nat → Int32)) => (w0_X6_give G qy qyn qyt qyu qyf qyr qyb qyk qyi qyx yn yt yu yf u yb yk yi yx za zs zl zt zg zr zm))) A) ([.ref qy] : List Value).toArray s 0 0 A) (F0 m 141 ls [.int y0]) := by
    intro k100 hk100 k6 hk6 yr x1 x2 x3 x4 x5 x6 y0 H locs ls hz_y0 hP hD hS hl hw
    unfold wj_n_X6_give_141 at hw
    refine lv_istore (lv' := [(7, .int y0), (0, .ref qy), (1, .int x1), (2, .int x2), (3, .int x3), (4, .int x4), (5, .int x5), (6, .int x6)]) hx hb dX6_give_141 hl (by decide) rfl (fun ls hl => ?_)
    refine lv_iload hx hb dX6_give_143 (lv_at hl 6 rfl) ?_
    refine lv_iload hx hb dX6_give_145 (lv_at hl 0 rfl) ?_
    refine lv_if_eq (tgt := 162) hx hb dX6_give_147 (by decide) (fun cd11 => ?_) (fun cd11 => ?_)
    · have hw := hw.1 cd11
      refine lv_iconst (v := 0) hx hb dX6_give_162 (by decide) ?_
      exact J163 k100 hk100 k6 hk6 yr x1 x2 x3 x4 x5 x6 y0 x5 (0 : Int32) _ _ _ hz_y0 hP hD hS (lv_sub hl [1, 2, 3, 4, 5, 6, 7, 0] rfl) hw
    · have hw := hw.2 cd11
      refine lv_iconst (v := 1) hx hb dX6_give_150 (by decide) ?_
      refine lv_aload_n hx hb dX6_give_151 rfl (lv_at hl 1 rfl) ?_
      refine va_get (D := gD G) (ci := 6) (v := .ref qyr) (C := RX6) (T := TX6) (N := 16) hx hb hts k_X6_give_inX6 hown hK hP 0 rfl rfl 5 (by decide) (hts _ k_X6_give_f22) (fun _ h9 => h9) rfl dX6_give_152 ?_
      refine lv_iload hx hb dX6_give_155 (lv_at hl 7 rfl) ?_
      obtain ⟨h12, hw⟩ := hw
      refine va_iald hx hb hK hP 5 0 rfl rfl h12 dX6_give_157 ?_
      refine lv_ishl hx hb dX6_give_158 ?_
      refine lv_goto (tgt := 163) hx hb dX6_give_159 (by decide) ?_
      exact J163 k100 hk100 k6 hk6 yr x1 x2 x3 x4 x5 x6 y0 x5 ((1 : Int32) <<< ((yr x6.toNatClampNeg) &&& 31)) _ _ _ hz_y0 hP hD hS (lv_sub hl [1, 2, 3, 4, 5, 6, 7, 0] rfl) hw
  have J140 : ∀ (k100 : (Nat → Int32) → Int32 → Int32 → Int32 → Int32 → Int32 → Int32 → Prop) (hk100 : ∀ (yr : Nat → Int32) (x1 : Int32) (x2 : Int32) (x3 : Int32) (x4 : Int32) (x5 : Int32) (x6 : Int32) (H : Heap) (locs : List Loc) (ls : Array Slot), va_P (gD G) vwCl (w0_X6_give G qy qyn qyt qyu qyf qyr qyb qyk qyi qyx yn yt yu yf yr yb yk yi yx za zs zl zt zg zr zm) H → va_D A (w0_X6_give G qy qyn qyt qyu qyf qyr qyb qyk qyi qyx yn yt yu yf yr yb yk yi yx za zs zl zt zg zr zm) → va_S A s.heap H locs → lv_has ls 8 [(0, .ref qy), (1, .int x1), (2, .int x2), (3, .int x3), (4, .int x4), (5, .int x5), (6, .int x6)] → k100 yr x1 x2 x3 x4 x5 x6 → W p l e ({ frames := 1, cells := 0, slots := 0, locals := 24 } : Room) s m ([.ref qy] : List Value).toArray below meth c H locs 0 0 (MQ below (va_Qi (fun (r : Int32) (u : (Nat → Int32)) => Q r u) (mBk G A (fun (u : (Nat → Int32)) => (w0_X6_give G qy qyn qyt qyu qyf qyr qyb qyk qyi qyx yn yt yu yf u yb yk yi yx za zs zl zt zg zr zm))) A) ([.ref qy] : List Value).toArray s 0 0 A) (F0 m 100 ls [])) (k6 : (Nat → Int32) → Int32 → Int32 → Int32 → Prop) (hk6 : ∀ (yr : Nat → Int32) (x1 : Int32) (x2 : Int32) (x3 : Int32) (H : Heap) (locs : List Loc) (ls : Array Slot), va_P (gD G) vwCl (w0_X6_give G qy qyn qyt qyu qyf qyr qyb qyk qyi qyx yn yt yu yf yr yb yk yi yx za zs zl zt zg zr zm) H → va_D A (w0_X6_give G qy qyn qyt qyu qyf qyr qyb qyk qyi qyx yn yt yu yf yr yb yk yi yx za zs zl zt zg zr zm) → va_S A s.heap H locs → lv_has ls 8 [(0, .ref qy), (1, .int x1), (2, .int x2), (3, .int x3)] → k6 yr x1 x2 x3 → W p l e ({ frames := 1, cells := 0, slots := 0, locals := 24 } : Room) s m ([.ref qy] : List Value).toArray below meth c H locs 0 0 (MQ below (va_Qi (fun (r : Int32) (u : (Nat → Int32)) => Q r u) (mBk G A (fun (u : (Nat → Int32)) => (w0_X6_give G qy qyn qyt qyu qyf qyr qyb qyk qyi qyx yn yt yu yf u yb yk yi yx za zs zl zt zg zr zm))) A) ([.ref qy] : List Value).toArray s 0 0 A) (F0 m 6 ls [])) (yr : Nat → Int32) (x1 : Int32) (x2 : Int32) (x3 : Int32) (x4 : Int32) (x5 : Int32) (x6 : Int32) (H : Heap) (locs : List Loc) (ls : Array Slot), va_P (gD G) vwCl (w0_X6_give G qy qyn qyt qyu qyf qyr qyb qyk qyi qyx yn yt yu yf yr yb yk yi yx za zs zl zt zg zr zm) H → va_D A (w0_X6_give G qy qyn qyt qyu qyf qyr qyb qyk qyi qyx yn yt yu yf yr yb yk yi yx za zs zl zt zg zr zm) → va_S A s.heap H locs → lv_has ls 8 [(0, .ref qy), (1, .int x1), (2, .int x2), (3, .int x3), (4, .int x4), (5, .int x5), (6, .int x6)] → wj_n_X6_give_140 yn Q k100 k6 yr x1 x2 x3 x4 x5 x6 → W p l e ({ frames := 1, cells := 0, slots := 0, locals := 24 } : Room) s m ([.ref qy] : List Value).toArray below meth c H locs 0 0 (MQ below (va_Qi (fun (r : Int32) (u : (Nat → Int32)) => Q r u) (mBk G A (fun (u : (Nat → Int32)) => (w0_X6_give G qy qyn qyt qyu qyf qyr qyb qyk qyi qyx yn yt yu yf u yb yk yi yx za zs zl zt zg zr zm))) A) ([.ref qy] : List Value).toArray s 0 0 A) (F0 m 140 ls []) := by
    intro k100 hk100 k6 hk6 yr x1 x2 x3 x4 x5 x6 H locs ls hP hD hS hl hw
    unfold wj_n_X6_give_140 at hw
    refine lv_iconst (v := 0) hx hb dX6_give_140 (by decide) ?_
    exact J141 k100 hk100 k6 hk6 yr x1 x2 x3 x4 x5 x6 (0 : Int32) _ _ _ (Or.inl rfl) hP hD hS hl hw
  have J100 : ∀ (k6 : (Nat → Int32) → Int32 → Int32 → Int32 → Prop) (hk6 : ∀ (yr : Nat → Int32) (x1 : Int32) (x2 : Int32) (x3 : Int32) (H : Heap) (locs : List Loc) (ls : Array Slot), va_P (gD G) vwCl (w0_X6_give G qy qyn qyt qyu qyf qyr qyb qyk qyi qyx yn yt yu yf yr yb yk yi yx za zs zl zt zg zr zm) H → va_D A (w0_X6_give G qy qyn qyt qyu qyf qyr qyb qyk qyi qyx yn yt yu yf yr yb yk yi yx za zs zl zt zg zr zm) → va_S A s.heap H locs → lv_has ls 8 [(0, .ref qy), (1, .int x1), (2, .int x2), (3, .int x3)] → k6 yr x1 x2 x3 → W p l e ({ frames := 1, cells := 0, slots := 0, locals := 24 } : Room) s m ([.ref qy] : List Value).toArray below meth c H locs 0 0 (MQ below (va_Qi (fun (r : Int32) (u : (Nat → Int32)) => Q r u) (mBk G A (fun (u : (Nat → Int32)) => (w0_X6_give G qy qyn qyt qyu qyf qyr qyb qyk qyi qyx yn yt yu yf u yb yk yi yx za zs zl zt zg zr zm))) A) ([.ref qy] : List Value).toArray s 0 0 A) (F0 m 6 ls [])) (n : Nat) (yr : Nat → Int32) (x1 : Int32) (x2 : Int32) (x3 : Int32) (x4 : Int32) (x5 : Int32) (x6 : Int32) (H : Heap) (locs : List Loc) (ls : Array Slot), va_P (gD G) vwCl (w0_X6_give G qy qyn qyt qyu qyf qyr qyb qyk qyi qyx yn yt yu yf yr yb yk yi yx za zs zl zt zg zr zm) H → va_D A (w0_X6_give G qy qyn qyt qyu qyf qyr qyb qyk qyi qyx yn yt yu yf yr yb yk yi yx za zs zl zt zg zr zm) → va_S A s.heap H locs → lv_has ls 8 [(0, .ref qy), (1, .int x1), (2, .int x2), (3, .int x3), (4, .int x4), (5, .int x5), (6, .int x6)] → wl_n_X6_give_100 yn Q k6 n yr x1 x2 x3 x4 x5 x6 → W p l e ({ frames := 1, cells := 0, slots := 0, locals := 24 } : Room) s m ([.ref qy] : List Value).toArray below meth c H locs 0 0 (MQ below (va_Qi (fun (r : Int32) (u : (Nat → Int32)) => Q r u) (mBk G A (fun (u : (Nat → Int32)) => (w0_X6_give G qy qyn qyt qyu qyf qyr qyb qyk qyi qyx yn yt yu yf u yb yk yi yx za zs zl zt zg zr zm))) A) ([.ref qy] : List Value).toArray s 0 0 A) (F0 m 100 ls []) := by
    intro k6 hk6 n
    induction n with
    | zero => intro yr x1 x2 x3 x4 x5 x6 H locs ls hP hD hS hl hw; exact False.elim hw
    | succ n ih =>
      intro yr x1 x2 x3 x4 x5 x6 H locs ls hP hD hS hl hw
      rw [wl_n_X6_give_100] at hw
      refine lv_iload hx hb dX6_give_100 (lv_at hl 6 rfl) ?_
      refine lv_aload_n hx hb dX6_give_102 rfl (lv_at hl 0 rfl) ?_
      refine va_get (D := gD G) (ci := 6) (v := .ref qyn) (C := RX6) (T := TX6) (N := 16) hx hb hts k_X6_give_inX6 hown hK hP 0 rfl rfl 1 (by decide) (hts _ k_X6_give_f7) (fun _ h9 => h9) rfl dX6_give_103 ?_
      refine lv_bipush (v := 44) hx hb dX6_give_106 (by decide) ?_
      obtain ⟨h5, hw⟩ := hw
      refine va_iald hx hb hK hP 1 0 rfl rfl h5 dX6_give_108 ?_
      refine lv_icmp_ge (tgt := 172) hx hb dX6_give_109 (by decide) (fun cd6 => ?_) (fun cd6 => ?_)
      · have hw := hw.1 cd6
        refine lv_iconst (v := 0) hx hb dX6_give_172 (by decide) ?_
        refine lv_istore (lv' := [(6, .int (0 : Int32)), (0, .ref qy), (1, .int x1), (2, .int x2), (3, .int x3), (4, .int x4), (5, .int x5)]) hx hb dX6_give_173 hl (by decide) rfl (fun ls hl => ?_)
        obtain ⟨n175, hw⟩ := hw
        exact J175 k6 hk6 n175 yr x1 x2 x3 x4 x5 (0 : Int32) _ _ _ hP hD hS (lv_sub hl [1, 2, 3, 4, 5, 6, 0] rfl) hw
      · have hw := hw.2 cd6
        refine lv_iload_n hx hb dX6_give_112 rfl (lv_at hl 1 rfl) ?_
        refine lv_iload hx hb dX6_give_113 (lv_at hl 6 rfl) ?_
        refine lv_ishr hx hb dX6_give_115 ?_
        refine lv_iconst (v := 1) hx hb dX6_give_116 (by decide) ?_
        refine lv_iand hx hb dX6_give_117 ?_
        refine lv_iconst (v := 1) hx hb dX6_give_118 (by decide) ?_
        refine lv_icmp_ne (tgt := 140) hx hb dX6_give_119 (by decide) (fun cd10 => ?_) (fun cd10 => ?_)
        · have hw := hw.1 cd10
          exact J140 (fun (z0 : Nat → Int32) (z1 : Int32) (z2 : Int32) (z3 : Int32) (z4 : Int32) (z5 : Int32) (z6 : Int32) => wl_n_X6_give_100 yn Q k6 n z0 z1 z2 z3 z4 z5 z6) ih k6 hk6 yr x1 x2 x3 x4 x5 x6 _ _ _ hP hD hS hl hw
        · have hw := hw.2 cd10
          refine lv_aload_n hx hb dX6_give_122 rfl (lv_at hl 0 rfl) ?_
          refine va_get (D := gD G) (ci := 6) (v := .ref qyn) (C := RX6) (T := TX6) (N := 16) hx hb hts k_X6_give_inX6 hown hK hP 0 rfl rfl 1 (by decide) (hts _ k_X6_give_f7) (fun _ h9 => h9) rfl dX6_give_123 ?_
          refine lv_iload hx hb dX6_give_126 (lv_at hl 4 rfl) ?_
          refine lv_iload hx hb dX6_give_128 (lv_at hl 6 rfl) ?_
          refine kcR_i (kr_S [] ⟨hx, hb, hml, hown, hts⟩ (cn_X6_clash l G qyn yn x4 x6 hw H.size) (va_cwS 3 hts gX6_give_X6_clash rfl rfl rfl (by decide +kernel) ⟨Nat.le_of_ble_eq_true rfl, Nat.le_of_ble_eq_true rfl⟩) hK hG hP hD hS hA [1] rfl rfl rfl hl.1 rfl (Nat.le_of_ble_eq_true rfl) dX6_give_130 ⟨Nat.le_of_ble_eq_true rfl, Nat.le_of_ble_eq_true rfl⟩) hP hD hS hA [1] rfl (fun r13 u H locs hw hP hS => ?_)
          try dsimp only at hw
          obtain ⟨hz_r13, hw⟩ := hw
          refine lv_if_eq (tgt := 140) hx hb dX6_give_133 (by decide) (fun cd14 => ?_) (fun cd14 => ?_)
          · have hw := hw.1 cd14
            exact J140 (fun (z0 : Nat → Int32) (z1 : Int32) (z2 : Int32) (z3 : Int32) (z4 : Int32) (z5 : Int32) (z6 : Int32) => wl_n_X6_give_100 yn Q k6 n z0 z1 z2 z3 z4 z5 z6) ih k6 hk6 yr x1 x2 x3 x4 x5 x6 _ _ _ hP hD hS hl hw
          · have hw := hw.2 cd14
            refine lv_iconst (v := 1) hx hb dX6_give_136 (by decide) ?_
            refine lv_goto (tgt := 141) hx hb dX6_give_137 (by decide) ?_
            exact J141 (fun (z0 : Nat → Int32) (z1 : Int32) (z2 : Int32) (z3 : Int32) (z4 : Int32) (z5 : Int32) (z6 : Int32) => wl_n_X6_give_100 yn Q k6 n z0 z1 z2 z3 z4 z5 z6) ih k6 hk6 yr x1 x2 x3 x4 x5 x6 (1 : Int32) _ _ _ (Or.inr rfl) hP hD hS hl hw
  have J79 : ∀ (k23 : (Nat → Int32) → Int32 → Int32 → Int32 → Int32 → Int32 → Prop) (hk23 : ∀ (yr : Nat → Int32) (x1 : Int32) (x2 : Int32) (x3 : Int32) (x4 : Int32) (x5 : Int32) (H : Heap) (locs : List Loc) (ls : Array Slot), va_P (gD G) vwCl (w0_X6_give G qy qyn qyt qyu qyf qyr qyb qyk qyi qyx yn yt yu yf yr yb yk yi yx za zs zl zt zg zr zm) H → va_D A (w0_X6_give G qy qyn qyt qyu qyf qyr qyb qyk qyi qyx yn yt yu yf yr yb yk yi yx za zs zl zt zg zr zm) → va_S A s.heap H locs → lv_has ls 8 [(0, .ref qy), (1, .int x1), (2, .int x2), (3, .int x3), (4, .int x4), (5, .int x5)] → k23 yr x1 x2 x3 x4 x5 → W p l e ({ frames := 1, cells := 0, slots := 0, locals := 24 } : Room) s m ([.ref qy] : List Value).toArray below meth c H locs 0 0 (MQ below (va_Qi (fun (r : Int32) (u : (Nat → Int32)) => Q r u) (mBk G A (fun (u : (Nat → Int32)) => (w0_X6_give G qy qyn qyt qyu qyf qyr qyb qyk qyi qyx yn yt yu yf u yb yk yi yx za zs zl zt zg zr zm))) A) ([.ref qy] : List Value).toArray s 0 0 A) (F0 m 23 ls [])) (k6 : (Nat → Int32) → Int32 → Int32 → Int32 → Prop) (hk6 : ∀ (yr : Nat → Int32) (x1 : Int32) (x2 : Int32) (x3 : Int32) (H : Heap) (locs : List Loc) (ls : Array Slot), va_P (gD G) vwCl (w0_X6_give G qy qyn qyt qyu qyf qyr qyb qyk qyi qyx yn yt yu yf yr yb yk yi yx za zs zl zt zg zr zm) H → va_D A (w0_X6_give G qy qyn qyt qyu qyf qyr qyb qyk qyi qyx yn yt yu yf yr yb yk yi yx za zs zl zt zg zr zm) → va_S A s.heap H locs → lv_has ls 8 [(0, .ref qy), (1, .int x1), (2, .int x2), (3, .int x3)] → k6 yr x1 x2 x3 → W p l e ({ frames := 1, cells := 0, slots := 0, locals := 24 } : Room) s m ([.ref qy] : List Value).toArray below meth c H locs 0 0 (MQ below (va_Qi (fun (r : Int32) (u : (Nat → Int32)) => Q r u) (mBk G A (fun (u : (Nat → Int32)) => (w0_X6_give G qy qyn qyt qyu qyf qyr qyb qyk qyi qyx yn yt yu yf u yb yk yi yx za zs zl zt zg zr zm))) A) ([.ref qy] : List Value).toArray s 0 0 A) (F0 m 6 ls [])) (yr : Nat → Int32) (x1 : Int32) (x2 : Int32) (x3 : Int32) (x4 : Int32) (x5 : Int32) (x6 : Int32) (H : Heap) (locs : List Loc) (ls : Array Slot), (x6 = 0 ∨ x6 = 1) → va_P (gD G) vwCl (w0_X6_give G qy qyn qyt qyu qyf qyr qyb qyk qyi qyx yn yt yu yf yr yb yk yi yx za zs zl zt zg zr zm) H → va_D A (w0_X6_give G qy qyn qyt qyu qyf qyr qyb qyk qyi qyx yn yt yu yf yr yb yk yi yx za zs zl zt zg zr zm) → va_S A s.heap H locs → lv_has ls 8 [(0, .ref qy), (1, .int x1), (2, .int x2), (3, .int x3), (4, .int x4), (5, .int x5), (6, .int x6)] → wj_n_X6_give_79 yn Q k23 k6 yr x1 x2 x3 x4 x5 x6 → W p l e ({ frames := 1, cells := 0, slots := 0, locals := 24 } : Room) s m ([.ref qy] : List Value).toArray below meth c H locs 0 0 (MQ below (va_Qi (fun (r : Int32) (u : (Nat → Int32)) => Q r u) (mBk G A (fun (u : (Nat → Int32)) => (w0_X6_give G qy qyn qyt qyu qyf qyr qyb qyk qyi qyx yn yt yu yf u yb yk yi yx za zs zl zt zg zr zm))) A) ([.ref qy] : List Value).toArray s 0 0 A) (F0 m 79 ls []) := by
    intro k23 hk23 k6 hk6 yr x1 x2 x3 x4 x5 x6 H locs ls hz_x6 hP hD hS hl hw
    unfold wj_n_X6_give_79 at hw
    refine lv_iload hx hb dX6_give_79 (lv_at hl 5 rfl) ?_
    refine lv_goto (tgt := 86) hx hb dX6_give_81 (by decide) ?_
    refine lv_istore (lv' := [(4, .int x5), (0, .ref qy), (1, .int x1), (2, .int x2), (3, .int x3), (5, .int x5), (6, .int x6)]) hx hb dX6_give_86 hl (by decide) rfl (fun ls hl => ?_)
    refine lv_iinc (v := (x5 + 1)) (lv' := [(5, .int (x5 + 1)), (4, .int x5), (0, .ref qy), (1, .int x1), (2, .int x2), (3, .int x3), (6, .int x6)]) hx hb dX6_give_88 hl (k := 5) rfl rfl (by decide) rfl (fun ls hl => ?_)
    refine lv_goto (tgt := 23) hx hb dX6_give_91 (by decide) ?_
    exact hk23 yr x1 x2 x3 x5 (x5 + 1) _ _ _ hP hD hS (lv_sub hl [2, 3, 4, 5, 1, 0] rfl) hw
  have J49 : ∀ (k23 : (Nat → Int32) → Int32 → Int32 → Int32 → Int32 → Int32 → Prop) (hk23 : ∀ (yr : Nat → Int32) (x1 : Int32) (x2 : Int32) (x3 : Int32) (x4 : Int32) (x5 : Int32) (H : Heap) (locs : List Loc) (ls : Array Slot), va_P (gD G) vwCl (w0_X6_give G qy qyn qyt qyu qyf qyr qyb qyk qyi qyx yn yt yu yf yr yb yk yi yx za zs zl zt zg zr zm) H → va_D A (w0_X6_give G qy qyn qyt qyu qyf qyr qyb qyk qyi qyx yn yt yu yf yr yb yk yi yx za zs zl zt zg zr zm) → va_S A s.heap H locs → lv_has ls 8 [(0, .ref qy), (1, .int x1), (2, .int x2), (3, .int x3), (4, .int x4), (5, .int x5)] → k23 yr x1 x2 x3 x4 x5 → W p l e ({ frames := 1, cells := 0, slots := 0, locals := 24 } : Room) s m ([.ref qy] : List Value).toArray below meth c H locs 0 0 (MQ below (va_Qi (fun (r : Int32) (u : (Nat → Int32)) => Q r u) (mBk G A (fun (u : (Nat → Int32)) => (w0_X6_give G qy qyn qyt qyu qyf qyr qyb qyk qyi qyx yn yt yu yf u yb yk yi yx za zs zl zt zg zr zm))) A) ([.ref qy] : List Value).toArray s 0 0 A) (F0 m 23 ls [])) (k6 : (Nat → Int32) → Int32 → Int32 → Int32 → Prop) (hk6 : ∀ (yr : Nat → Int32) (x1 : Int32) (x2 : Int32) (x3 : Int32) (H : Heap) (locs : List Loc) (ls : Array Slot), va_P (gD G) vwCl (w0_X6_give G qy qyn qyt qyu qyf qyr qyb qyk qyi qyx yn yt yu yf yr yb yk yi yx za zs zl zt zg zr zm) H → va_D A (w0_X6_give G qy qyn qyt qyu qyf qyr qyb qyk qyi qyx yn yt yu yf yr yb yk yi yx za zs zl zt zg zr zm) → va_S A s.heap H locs → lv_has ls 8 [(0, .ref qy), (1, .int x1), (2, .int x2), (3, .int x3)] → k6 yr x1 x2 x3 → W p l e ({ frames := 1, cells := 0, slots := 0, locals := 24 } : Room) s m ([.ref qy] : List Value).toArray below meth c H locs 0 0 (MQ below (va_Qi (fun (r : Int32) (u : (Nat → Int32)) => Q r u) (mBk G A (fun (u : (Nat → Int32)) => (w0_X6_give G qy qyn qyt qyu qyf qyr qyb qyk qyi qyx yn yt yu yf u yb yk yi yx za zs zl zt zg zr zm))) A) ([.ref qy] : List Value).toArray s 0 0 A) (F0 m 6 ls [])) (yr : Nat → Int32) (x1 : Int32) (x2 : Int32) (x3 : Int32) (x4 : Int32) (x5 : Int32) (y0 : Int32) (H : Heap) (locs : List Loc) (ls : Array Slot), (y0 = 0 ∨ y0 = 1) → va_P (gD G) vwCl (w0_X6_give G qy qyn qyt qyu qyf qyr qyb qyk qyi qyx yn yt yu yf yr yb yk yi yx za zs zl zt zg zr zm) H → va_D A (w0_X6_give G qy qyn qyt qyu qyf qyr qyb qyk qyi qyx yn yt yu yf yr yb yk yi yx za zs zl zt zg zr zm) → va_S A s.heap H locs → lv_has ls 8 [(0, .ref qy), (1, .int x1), (2, .int x2), (3, .int x3), (4, .int x4), (5, .int x5)] → wj_n_X6_give_49 yn Q k23 k6 yr x1 x2 x3 x4 x5 y0 → W p l e ({ frames := 1, cells := 0, slots := 0, locals := 24 } : Room) s m ([.ref qy] : List Value).toArray below meth c H locs 0 0 (MQ below (va_Qi (fun (r : Int32) (u : (Nat → Int32)) => Q r u) (mBk G A (fun (u : (Nat → Int32)) => (w0_X6_give G qy qyn qyt qyu qyf qyr qyb qyk qyi qyx yn yt yu yf u yb yk yi yx za zs zl zt zg zr zm))) A) ([.ref qy] : List Value).toArray s 0 0 A) (F0 m 49 ls [.int y0]) := by
    intro k23 hk23 k6 hk6 yr x1 x2 x3 x4 x5 y0 H locs ls hz_y0 hP hD hS hl hw
    unfold wj_n_X6_give_49 at hw
    refine lv_istore (lv' := [(6, .int y0), (0, .ref qy), (1, .int x1), (2, .int x2), (3, .int x3), (4, .int x4), (5, .int x5)]) hx hb dX6_give_49 hl (by decide) rfl (fun ls hl => ?_)
    refine lv_iload hx hb dX6_give_51 (lv_at hl 0 rfl) ?_
    refine lv_if_eq (tgt := 84) hx hb dX6_give_53 (by decide) (fun cd16 => ?_) (fun cd16 => ?_)
    · have hw := hw.1 cd16
      refine lv_iload hx hb dX6_give_84 (lv_at hl 5 rfl) ?_
      refine lv_istore (lv' := [(4, .int x4), (6, .int y0), (0, .ref qy), (1, .int x1), (2, .int x2), (3, .int x3), (5, .int x5)]) hx hb dX6_give_86 hl (by decide) rfl (fun ls hl => ?_)
      refine lv_iinc (v := (x5 + 1)) (lv' := [(5, .int (x5 + 1)), (4, .int x4), (6, .int y0), (0, .ref qy), (1, .int x1), (2, .int x2), (3, .int x3)]) hx hb dX6_give_88 hl (k := 6) rfl rfl (by decide) rfl (fun ls hl => ?_)
      refine lv_goto (tgt := 23) hx hb dX6_give_91 (by decide) ?_
      exact hk23 yr x1 x2 x3 x4 (x5 + 1) _ _ _ hP hD hS (lv_sub hl [3, 4, 5, 6, 1, 0] rfl) hw
    · have hw := hw.2 cd16
      refine lv_iload hx hb dX6_give_56 (lv_at hl 5 rfl) ?_
      refine lv_iconst (v := -1) hx hb dX6_give_58 (by decide) ?_
      refine lv_icmp_eq (tgt := 79) hx hb dX6_give_59 (by decide) (fun cd17 => ?_) (fun cd17 => ?_)
      · have hw := hw.1 cd17
        exact J79 k23 hk23 k6 hk6 yr x1 x2 x3 x4 x5 y0 _ _ _ hz_y0 hP hD hS (lv_sub hl [1, 2, 3, 4, 5, 6, 0] rfl) hw
      · have hw := hw.2 cd17
        refine lv_aload_n hx hb dX6_give_62 rfl (lv_at hl 1 rfl) ?_
        refine va_get (D := gD G) (ci := 6) (v := .ref qyn) (C := RX6) (T := TX6) (N := 16) hx hb hts k_X6_give_inX6 hown hK hP 0 rfl rfl 1 (by decide) (hts _ k_X6_give_f7) (fun _ h9 => h9) rfl dX6_give_63 ?_
        refine lv_iload hx hb dX6_give_66 (lv_at hl 6 rfl) ?_
        obtain ⟨h18, hw⟩ := hw
        refine va_iald hx hb hK hP 1 0 rfl rfl h18 dX6_give_68 ?_
        refine lv_aload_n hx hb dX6_give_69 rfl (lv_at hl 1 rfl) ?_
        refine va_get (D := gD G) (ci := 6) (v := .ref qyn) (C := RX6) (T := TX6) (N := 16) hx hb hts k_X6_give_inX6 hown hK hP 0 rfl rfl 1 (by decide) (hts _ k_X6_give_f7) (fun _ h9 => h9) rfl dX6_give_70 ?_
        refine lv_iload hx hb dX6_give_73 (lv_at hl 5 rfl) ?_
        obtain ⟨h19, hw⟩ := hw
        refine va_iald hx hb hK hP 1 0 rfl rfl h19 dX6_give_75 ?_
        refine lv_icmp_ge (tgt := 84) hx hb dX6_give_76 (by decide) (fun cd20 => ?_) (fun cd20 => ?_)
        · have hw := hw.1 cd20
          refine lv_iload hx hb dX6_give_84 (lv_at hl 5 rfl) ?_
          refine lv_istore (lv' := [(4, .int x4), (6, .int y0), (0, .ref qy), (1, .int x1), (2, .int x2), (3, .int x3), (5, .int x5)]) hx hb dX6_give_86 hl (by decide) rfl (fun ls hl => ?_)
          refine lv_iinc (v := (x5 + 1)) (lv' := [(5, .int (x5 + 1)), (4, .int x4), (6, .int y0), (0, .ref qy), (1, .int x1), (2, .int x2), (3, .int x3)]) hx hb dX6_give_88 hl (k := 6) rfl rfl (by decide) rfl (fun ls hl => ?_)
          refine lv_goto (tgt := 23) hx hb dX6_give_91 (by decide) ?_
          exact hk23 yr x1 x2 x3 x4 (x5 + 1) _ _ _ hP hD hS (lv_sub hl [3, 4, 5, 6, 1, 0] rfl) hw
        · have hw := hw.2 cd20
          exact J79 k23 hk23 k6 hk6 yr x1 x2 x3 x4 x5 y0 _ _ _ hz_y0 hP hD hS (lv_sub hl [1, 2, 3, 4, 5, 6, 0] rfl) hw
  have J23 : ∀ (k6 : (Nat → Int32) → Int32 → Int32 → Int32 → Prop) (hk6 : ∀ (yr : Nat → Int32) (x1 : Int32) (x2 : Int32) (x3 : Int32) (H : Heap) (locs : List Loc) (ls : Array Slot), va_P (gD G) vwCl (w0_X6_give G qy qyn qyt qyu qyf qyr qyb qyk qyi qyx yn yt yu yf yr yb yk yi yx za zs zl zt zg zr zm) H → va_D A (w0_X6_give G qy qyn qyt qyu qyf qyr qyb qyk qyi qyx yn yt yu yf yr yb yk yi yx za zs zl zt zg zr zm) → va_S A s.heap H locs → lv_has ls 8 [(0, .ref qy), (1, .int x1), (2, .int x2), (3, .int x3)] → k6 yr x1 x2 x3 → W p l e ({ frames := 1, cells := 0, slots := 0, locals := 24 } : Room) s m ([.ref qy] : List Value).toArray below meth c H locs 0 0 (MQ below (va_Qi (fun (r : Int32) (u : (Nat → Int32)) => Q r u) (mBk G A (fun (u : (Nat → Int32)) => (w0_X6_give G qy qyn qyt qyu qyf qyr qyb qyk qyi qyx yn yt yu yf u yb yk yi yx za zs zl zt zg zr zm))) A) ([.ref qy] : List Value).toArray s 0 0 A) (F0 m 6 ls [])) (n : Nat) (yr : Nat → Int32) (x1 : Int32) (x2 : Int32) (x3 : Int32) (x4 : Int32) (x5 : Int32) (H : Heap) (locs : List Loc) (ls : Array Slot), va_P (gD G) vwCl (w0_X6_give G qy qyn qyt qyu qyf qyr qyb qyk qyi qyx yn yt yu yf yr yb yk yi yx za zs zl zt zg zr zm) H → va_D A (w0_X6_give G qy qyn qyt qyu qyf qyr qyb qyk qyi qyx yn yt yu yf yr yb yk yi yx za zs zl zt zg zr zm) → va_S A s.heap H locs → lv_has ls 8 [(0, .ref qy), (1, .int x1), (2, .int x2), (3, .int x3), (4, .int x4), (5, .int x5)] → wl_n_X6_give_23 yn Q k6 n yr x1 x2 x3 x4 x5 → W p l e ({ frames := 1, cells := 0, slots := 0, locals := 24 } : Room) s m ([.ref qy] : List Value).toArray below meth c H locs 0 0 (MQ below (va_Qi (fun (r : Int32) (u : (Nat → Int32)) => Q r u) (mBk G A (fun (u : (Nat → Int32)) => (w0_X6_give G qy qyn qyt qyu qyf qyr qyb qyk qyi qyx yn yt yu yf u yb yk yi yx za zs zl zt zg zr zm))) A) ([.ref qy] : List Value).toArray s 0 0 A) (F0 m 23 ls []) := by
    intro k6 hk6 n
    induction n with
    | zero => intro yr x1 x2 x3 x4 x5 H locs ls hP hD hS hl hw; exact False.elim hw
    | succ n ih =>
      intro yr x1 x2 x3 x4 x5 H locs ls hP hD hS hl hw
      rw [wl_n_X6_give_23] at hw
      refine lv_iload hx hb dX6_give_23 (lv_at hl 5 rfl) ?_
      refine lv_aload_n hx hb dX6_give_25 rfl (lv_at hl 0 rfl) ?_
      refine va_get (D := gD G) (ci := 6) (v := .ref qyn) (C := RX6) (T := TX6) (N := 16) hx hb hts k_X6_give_inX6 hown hK hP 0 rfl rfl 1 (by decide) (hts _ k_X6_give_f7) (fun _ h9 => h9) rfl dX6_give_26 ?_
      refine lv_bipush (v := 44) hx hb dX6_give_29 (by decide) ?_
      obtain ⟨h3, hw⟩ := hw
      refine va_iald hx hb hK hP 1 0 rfl rfl h3 dX6_give_31 ?_
      refine lv_icmp_ge (tgt := 94) hx hb dX6_give_32 (by decide) (fun cd4 => ?_) (fun cd4 => ?_)
      · have hw := hw.1 cd4
        refine lv_iconst (v := 0) hx hb dX6_give_94 (by decide) ?_
        refine lv_istore (lv' := [(5, .int (0 : Int32)), (0, .ref qy), (1, .int x1), (2, .int x2), (3, .int x3), (4, .int x4)]) hx hb dX6_give_95 hl (by decide) rfl (fun ls hl => ?_)
        refine lv_iconst (v := 0) hx hb dX6_give_97 (by decide) ?_
        refine lv_istore (lv' := [(6, .int (0 : Int32)), (5, .int (0 : Int32)), (0, .ref qy), (1, .int x1), (2, .int x2), (3, .int x3), (4, .int x4)]) hx hb dX6_give_98 hl (by decide) rfl (fun ls hl => ?_)
        obtain ⟨n100, hw⟩ := hw
        exact J100 k6 hk6 n100 yr x1 x2 x3 x4 (0 : Int32) (0 : Int32) _ _ _ hP hD hS (lv_sub hl [2, 3, 4, 5, 6, 1, 0] rfl) hw
      · have hw := hw.2 cd4
        refine lv_iload_n hx hb dX6_give_35 rfl (lv_at hl 1 rfl) ?_
        refine lv_iload hx hb dX6_give_36 (lv_at hl 5 rfl) ?_
        refine lv_ishr hx hb dX6_give_38 ?_
        refine lv_iconst (v := 1) hx hb dX6_give_39 (by decide) ?_
        refine lv_iand hx hb dX6_give_40 ?_
        refine lv_if_ne (tgt := 48) hx hb dX6_give_41 (by decide) (fun cd15 => ?_) (fun cd15 => ?_)
        · have hw := hw.1 cd15
          refine lv_iconst (v := 0) hx hb dX6_give_48 (by decide) ?_
          exact J49 (fun (z0 : Nat → Int32) (z1 : Int32) (z2 : Int32) (z3 : Int32) (z4 : Int32) (z5 : Int32) => wl_n_X6_give_23 yn Q k6 n z0 z1 z2 z3 z4 z5) ih k6 hk6 yr x1 x2 x3 x4 x5 (0 : Int32) _ _ _ (Or.inl rfl) hP hD hS hl hw
        · have hw := hw.2 cd15
          refine lv_iconst (v := 1) hx hb dX6_give_44 (by decide) ?_
          refine lv_goto (tgt := 49) hx hb dX6_give_45 (by decide) ?_
          exact J49 (fun (z0 : Nat → Int32) (z1 : Int32) (z2 : Int32) (z3 : Int32) (z4 : Int32) (z5 : Int32) => wl_n_X6_give_23 yn Q k6 n z0 z1 z2 z3 z4 z5) ih k6 hk6 yr x1 x2 x3 x4 x5 (1 : Int32) _ _ _ (Or.inr rfl) hP hD hS hl hw
  have J6 : ∀ (n : Nat) (yr : Nat → Int32) (x1 : Int32) (x2 : Int32) (x3 : Int32) (H : Heap) (locs : List Loc) (ls : Array Slot), va_P (gD G) vwCl (w0_X6_give G qy qyn qyt qyu qyf qyr qyb qyk qyi qyx yn yt yu yf yr yb yk yi yx za zs zl zt zg zr zm) H → va_D A (w0_X6_give G qy qyn qyt qyu qyf qyr qyb qyk qyi qyx yn yt yu yf yr yb yk yi yx za zs zl zt zg zr zm) → va_S A s.heap H locs → lv_has ls 8 [(0, .ref qy), (1, .int x1), (2, .int x2), (3, .int x3)] → wl_n_X6_give_6 yn Q n yr x1 x2 x3 → W p l e ({ frames := 1, cells := 0, slots := 0, locals := 24 } : Room) s m ([.ref qy] : List Value).toArray below meth c H locs 0 0 (MQ below (va_Qi (fun (r : Int32) (u : (Nat → Int32)) => Q r u) (mBk G A (fun (u : (Nat → Int32)) => (w0_X6_give G qy qyn qyt qyu qyf qyr qyb qyk qyi qyx yn yt yu yf u yb yk yi yx za zs zl zt zg zr zm))) A) ([.ref qy] : List Value).toArray s 0 0 A) (F0 m 6 ls []) := by
    intro n
    induction n with
    | zero => intro yr x1 x2 x3 H locs ls hP hD hS hl hw; exact False.elim hw
    | succ n ih =>
      intro yr x1 x2 x3 H locs ls hP hD hS hl hw
      rw [wl_n_X6_give_6] at hw
      refine lv_iload_n hx hb dX6_give_6 rfl (lv_at hl 3 rfl) ?_
      refine lv_aload_n hx hb dX6_give_7 rfl (lv_at hl 0 rfl) ?_
      refine va_get (D := gD G) (ci := 6) (v := .ref qyn) (C := RX6) (T := TX6) (N := 16) hx hb hts k_X6_give_inX6 hown hK hP 0 rfl rfl 1 (by decide) (hts _ k_X6_give_f7) (fun _ h9 => h9) rfl dX6_give_8 ?_
      refine lv_bipush (v := 44) hx hb dX6_give_11 (by decide) ?_
      obtain ⟨h1, hw⟩ := hw
      refine va_iald hx hb hK hP 1 0 rfl rfl h1 dX6_give_13 ?_
      refine lv_icmp_ge (tgt := 231) hx hb dX6_give_14 (by decide) (fun cd2 => ?_) (fun cd2 => ?_)
      · have hw := hw.1 cd2
        refine lv_iload_n hx hb dX6_give_231 rfl (lv_at hl 2 rfl) ?_
        exact fin_i (yr) hx hb hr hlocks hK hS hP hD hw dX6_give_232
      · have hw := hw.2 cd2
        refine lv_iconst (v := -1) hx hb dX6_give_17 (by decide) ?_
        refine lv_istore (lv' := [(4, .int (-1 : Int32)), (0, .ref qy), (1, .int x1), (2, .int x2), (3, .int x3)]) hx hb dX6_give_18 hl (by decide) rfl (fun ls hl => ?_)
        refine lv_iconst (v := 0) hx hb dX6_give_20 (by decide) ?_
        refine lv_istore (lv' := [(5, .int (0 : Int32)), (4, .int (-1 : Int32)), (0, .ref qy), (1, .int x1), (2, .int x2), (3, .int x3)]) hx hb dX6_give_21 hl (by decide) rfl (fun ls hl => ?_)
        obtain ⟨n23, hw⟩ := hw
        exact J23 (fun (z0 : Nat → Int32) (z1 : Int32) (z2 : Int32) (z3 : Int32) => wl_n_X6_give_6 yn Q n z0 z1 z2 z3) ih n23 yr x1 x2 x3 (-1 : Int32) (0 : Int32) _ _ _ hP hD hS (lv_sub hl [2, 3, 4, 5, 1, 0] rfl) hw
  unfold wn_X6_give at hw
  refine lv_iconst (v := 0) hx hb dX6_give_0 (by decide) ?_
  refine lv_istore_n (lv' := [(1, .int (0 : Int32)), (0, .ref qy)]) hx hb dX6_give_1 rfl hl (by decide) rfl (fun ls hl => ?_)
  refine lv_iconst (v := 0) hx hb dX6_give_2 (by decide) ?_
  refine lv_istore_n (lv' := [(2, .int (0 : Int32)), (1, .int (0 : Int32)), (0, .ref qy)]) hx hb dX6_give_3 rfl hl (by decide) rfl (fun ls hl => ?_)
  refine lv_iconst (v := 0) hx hb dX6_give_4 (by decide) ?_
  refine lv_istore_n (lv' := [(3, .int (0 : Int32)), (2, .int (0 : Int32)), (1, .int (0 : Int32)), (0, .ref qy)]) hx hb dX6_give_5 rfl hl (by decide) rfl (fun ls hl => ?_)
  obtain ⟨n6, hw⟩ := hw
  exact J6 n6 yr (0 : Int32) (0 : Int32) (0 : Int32) _ _ _ hP hD hS (lv_sub hl [3, 2, 1, 0] rfl) hw
