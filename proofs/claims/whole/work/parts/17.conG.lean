abbrev w0_X6_conflictsBySweep (G : mG) (qy : Nat) (qyn : Nat) (qyt : Nat) (qyu : Nat) (qyf : Nat) (qyr : Nat) (qyb : Nat) (qyk : Nat) (qyi : Nat) (qyx : Nat) (yn : Nat → Int32) (yt : Nat → Int32) (yu : Nat → Int32) (yf : Nat → Int32) (yr : Nat → Int32) (yb : Nat → Int32) (yk : Nat → Int32) (yi : Nat → Int32) (yx : Nat → Int32) (za : Int32) (zs : Int32) (zl : Int32) (zt : Int32) (zg : Int32) (zr : Int32) (zm : Int32) : va_W := [(qy, .inr (6, [.int za, .ref qyn, .ref qyt, .ref qyu, .ref qyf, .ref qyr, .ref qyb, .int zs, .ref qyk, .ref qyi, .ref qyx, .int zl, .int zt, .int zg, .int zr, .int zm])), (qyn, .inl (gI G, (45, .inl yn))), (qyt, .inl (gI G, (45, .inl yt))), (qyu, .inl (gI G, (16384, .inl yu))), (qyf, .inl (gI G, (14, .inl yf))), (qyr, .inl (gI G, (14, .inl yr))), (qyb, .inl (gI G, (270, .inl yb))), (qyk, .inl (gI G, (90, .inl yk))), (qyi, .inl (gZ G, (2, .inl yi))), (qyx, .inl (gI G, (60, .inl yx)))]
set_option maxRecDepth 100000 in
theorem k_X6_conflictsBySweep_inX6 : ∀ w ∈ u_ws RX6 TX6 16, w ∈ wsX6_conflictsBySweep := by decide +kernel
set_option maxRecDepth 100000 in
theorem k_X6_conflictsBySweep_f38 : Cond.fieldLink RX6 38 "RehearsalRoomModel" "refusal" "I" ∈ wsX6_conflictsBySweep := by decide +kernel
set_option maxHeartbeats 8000000 in
set_option maxRecDepth 100000 in
theorem cn_X6_conflictsBySweep (l : Launch) (G : mG) (qy : Nat) (qyn : Nat) (qyt : Nat) (qyu : Nat) (qyf : Nat) (qyr : Nat) (qyb : Nat) (qyk : Nat) (qyi : Nat) (qyx : Nat) (yn : Nat → Int32) (yt : Nat → Int32) (yu : Nat → Int32) (yf : Nat → Int32) (yr : Nat → Int32) (yb : Nat → Int32) (yk : Nat → Int32) (yi : Nat → Int32) (yx : Nat → Int32) (za : Int32) (zs : Int32) (zl : Int32) (zt : Int32) (zg : Int32) (zr : Int32) (zm : Int32) {Q : Int32 → Int32 → Prop} (hw : wn_X6_conflictsBySweep yn za Q) (sz : Nat) :
    Met l yX6_conflictsBySweep wsX6_conflictsBySweep ({ frames := 3, cells := 0, slots := 0, locals := 69 } : Room) (va_Pc [.ref qy] (mPre G (w0_X6_conflictsBySweep G qy qyn qyt qyu qyf qyr qyb qyk qyi qyx yn yt yu yf yr yb yk yi yx za zs zl zt zg zr zm) sz)) (va_Qi (fun (r : Int32) (u : Int32) => Q r u) (mBk G (va_A (w0_X6_conflictsBySweep G qy qyn qyt qyu qyf qyr qyb qyk qyi qyx yn yt yu yf yr yb yk yi yx za zs zl zt zg zr zm) sz) (fun (u : Int32) => (w0_X6_conflictsBySweep G qy qyn qyt qyu qyf qyr qyb qyk qyi qyx yn yt yu yf yr yb yk yi yx u zs zl zt zg zr zm))) (va_A (w0_X6_conflictsBySweep G qy qyn qyt qyu qyf qyr qyb qyk qyi qyx yn yt yu yf yr yb yk yi yx za zs zl zt zg zr zm) sz)) 0 0 (va_A (w0_X6_conflictsBySweep G qy qyn qyt qyu qyf qyr qyb qyk qyi qyx yn yt yu yf yr yb yk yi yx za zs zl zt zg zr zm) sz) := by
  refine ms_i (cc := cX6_conflictsBySweep) (maxL := 1) (ret := some .int) (post := (fun (r : Int32) (u : Int32) => Q r u)) (w1 := (fun (u : Int32) => (w0_X6_conflictsBySweep G qy qyn qyt qyu qyf qyr qyb qyk qyi qyx yn yt yu yf yr yb yk yi yx u zs zl zt zg zr zm))) (by decide) rfl (Nat.le_of_ble_eq_true rfl) ?_ sz
  intro p e s m below meth c A ls H locs hx hb hr hml hown hts hlocks hK hG hP hD hS hA hl
  have hown : s.vm.findClass RX6 = some m.cls := hown
  have hl : lv_has ls 1 [(0, .ref qy)] := hl
  unfold wn_X6_conflictsBySweep at hw
  refine lv_aload_n hx hb dX6_conflictsBySweep_0 rfl (lv_at hl 0 rfl) ?_
  refine lv_iconst (v := 0) hx hb dX6_conflictsBySweep_1 (by decide) ?_
  refine va_put (D := gD G) (ci := 6) (v := .int (0 : Int32)) (ty := .int) (C := RX6) (T := TX6) (N := 16) hx hb hts k_X6_conflictsBySweep_inX6 tyX6 tyX6_ok nmX6 hown hK hP hD hS 0 rfl rfl 0 (by decide) (hts _ k_X6_conflictsBySweep_f38) (fun _ h9 => h9) rfl (by decide +kernel) rfl rfl (Nat.le_of_ble_eq_true rfl) dX6_conflictsBySweep_2 (fun H locs hP hD hS => ?_)
  have hP : va_P (gD G) vwCl (w0_X6_conflictsBySweep G qy qyn qyt qyu qyf qyr qyb qyk qyi qyx yn yt yu yf yr yb yk yi yx (0 : Int32) zs zl zt zg zr zm) H := hP
  have hD : va_D A (w0_X6_conflictsBySweep G qy qyn qyt qyu qyf qyr qyb qyk qyi qyx yn yt yu yf yr yb yk yi yx (0 : Int32) zs zl zt zg zr zm) := hD
  refine lv_aload_n hx hb dX6_conflictsBySweep_5 rfl (lv_at hl 0 rfl) ?_
  refine kcR_i (kr_V [] ⟨hx, hb, hml, hown, hts⟩ (cn_X6_pairs l G qy qyn qyt qyu qyf qyr qyb qyk qyi qyx yn yt yu yf yr yb yk yi yx (0 : Int32) zs zl zt zg zr zm hw H.size) (cwV 0 hts gX6_conflictsBySweep_X6_pairs rfl rfl rfl (by decide +kernel) ⟨Nat.le_of_ble_eq_true rfl, Nat.le_of_ble_eq_true rfl⟩) hK hG hP hD hS hA [0, 1, 2, 3, 4, 5, 6, 7, 8, 9] rfl rfl 6 0 rfl rfl rfl hl.1 rfl (Nat.le_of_ble_eq_true rfl) dX6_conflictsBySweep_6 ⟨Nat.le_of_ble_eq_true rfl, Nat.le_of_ble_eq_true rfl⟩) hP hD hS hA [0, 1, 2, 3, 4, 5, 6, 7, 8, 9] rfl (fun r1 u H locs hw hP hS => ?_)
  try dsimp only at hw
  exact fin_i ((0 : Int32)) hx hb hr hlocks hK hS hP hD hw dX6_conflictsBySweep_9

abbrev w0_X6_roomsBySweep (G : mG) (qy : Nat) (qyn : Nat) (qyt : Nat) (qyu : Nat) (qyf : Nat) (qyr : Nat) (qyb : Nat) (qyk : Nat) (qyi : Nat) (qyx : Nat) (yn : Nat → Int32) (yt : Nat → Int32) (yu : Nat → Int32) (yf : Nat → Int32) (yr : Nat → Int32) (yb : Nat → Int32) (yk : Nat → Int32) (yi : Nat → Int32) (yx : Nat → Int32) (za : Int32) (zs : Int32) (zl : Int32) (zt : Int32) (zg : Int32) (zr : Int32) (zm : Int32) : va_W := [(qy, .inr (6, [.int za, .ref qyn, .ref qyt, .ref qyu, .ref qyf, .ref qyr, .ref qyb, .int zs, .ref qyk, .ref qyi, .ref qyx, .int zl, .int zt, .int zg, .int zr, .int zm])), (qyn, .inl (gI G, (45, .inl yn))), (qyt, .inl (gI G, (45, .inl yt))), (qyu, .inl (gI G, (16384, .inl yu))), (qyf, .inl (gI G, (14, .inl yf))), (qyr, .inl (gI G, (14, .inl yr))), (qyb, .inl (gI G, (270, .inl yb))), (qyk, .inl (gI G, (90, .inl yk))), (qyi, .inl (gZ G, (2, .inl yi))), (qyx, .inl (gI G, (60, .inl yx)))]
set_option maxRecDepth 100000 in
theorem k_X6_roomsBySweep_inX6 : ∀ w ∈ u_ws RX6 TX6 16, w ∈ wsX6_roomsBySweep := by decide +kernel
set_option maxRecDepth 100000 in
theorem k_X6_roomsBySweep_f38 : Cond.fieldLink RX6 38 "RehearsalRoomModel" "refusal" "I" ∈ wsX6_roomsBySweep := by decide +kernel
set_option maxHeartbeats 8000000 in
set_option maxRecDepth 100000 in
theorem cn_X6_roomsBySweep (l : Launch) (G : mG) (qy : Nat) (qyn : Nat) (qyt : Nat) (qyu : Nat) (qyf : Nat) (qyr : Nat) (qyb : Nat) (qyk : Nat) (qyi : Nat) (qyx : Nat) (yn : Nat → Int32) (yt : Nat → Int32) (yu : Nat → Int32) (yf : Nat → Int32) (yr : Nat → Int32) (yb : Nat → Int32) (yk : Nat → Int32) (yi : Nat → Int32) (yx : Nat → Int32) (za : Int32) (zs : Int32) (zl : Int32) (zt : Int32) (zg : Int32) (zr : Int32) (zm : Int32) {Q : Int32 → (Nat → Int32) → Int32 → Prop} (hw : wn_X6_roomsBySweep yn yr za Q) (sz : Nat) :
    Met l yX6_roomsBySweep wsX6_roomsBySweep ({ frames := 2, cells := 0, slots := 0, locals := 51 } : Room) (va_Pc [.ref qy] (mPre G (w0_X6_roomsBySweep G qy qyn qyt qyu qyf qyr qyb qyk qyi qyx yn yt yu yf yr yb yk yi yx za zs zl zt zg zr zm) sz)) (va_Qi (fun (r : Int32) (u : (Nat → Int32) × Int32) => Q r u.1 u.2) (mBk G (va_A (w0_X6_roomsBySweep G qy qyn qyt qyu qyf qyr qyb qyk qyi qyx yn yt yu yf yr yb yk yi yx za zs zl zt zg zr zm) sz) (fun (u : (Nat → Int32) × Int32) => (w0_X6_roomsBySweep G qy qyn qyt qyu qyf qyr qyb qyk qyi qyx yn yt yu yf u.1 yb yk yi yx u.2 zs zl zt zg zr zm))) (va_A (w0_X6_roomsBySweep G qy qyn qyt qyu qyf qyr qyb qyk qyi qyx yn yt yu yf yr yb yk yi yx za zs zl zt zg zr zm) sz)) 0 0 (va_A (w0_X6_roomsBySweep G qy qyn qyt qyu qyf qyr qyb qyk qyi qyx yn yt yu yf yr yb yk yi yx za zs zl zt zg zr zm) sz) := by
  refine ms_i (cc := cX6_roomsBySweep) (maxL := 1) (ret := some .int) (post := (fun (r : Int32) (u : (Nat → Int32) × Int32) => Q r u.1 u.2)) (w1 := (fun (u : (Nat → Int32) × Int32) => (w0_X6_roomsBySweep G qy qyn qyt qyu qyf qyr qyb qyk qyi qyx yn yt yu yf u.1 yb yk yi yx u.2 zs zl zt zg zr zm))) (by decide) rfl (Nat.le_of_ble_eq_true rfl) ?_ sz
  intro p e s m below meth c A ls H locs hx hb hr hml hown hts hlocks hK hG hP hD hS hA hl
  have hown : s.vm.findClass RX6 = some m.cls := hown
  have hl : lv_has ls 1 [(0, .ref qy)] := hl
  unfold wn_X6_roomsBySweep at hw
  refine lv_aload_n hx hb dX6_roomsBySweep_0 rfl (lv_at hl 0 rfl) ?_
  refine lv_iconst (v := 0) hx hb dX6_roomsBySweep_1 (by decide) ?_
  refine va_put (D := gD G) (ci := 6) (v := .int (0 : Int32)) (ty := .int) (C := RX6) (T := TX6) (N := 16) hx hb hts k_X6_roomsBySweep_inX6 tyX6 tyX6_ok nmX6 hown hK hP hD hS 0 rfl rfl 0 (by decide) (hts _ k_X6_roomsBySweep_f38) (fun _ h9 => h9) rfl (by decide +kernel) rfl rfl (Nat.le_of_ble_eq_true rfl) dX6_roomsBySweep_2 (fun H locs hP hD hS => ?_)
  have hP : va_P (gD G) vwCl (w0_X6_roomsBySweep G qy qyn qyt qyu qyf qyr qyb qyk qyi qyx yn yt yu yf yr yb yk yi yx (0 : Int32) zs zl zt zg zr zm) H := hP
  have hD : va_D A (w0_X6_roomsBySweep G qy qyn qyt qyu qyf qyr qyb qyk qyi qyx yn yt yu yf yr yb yk yi yx (0 : Int32) zs zl zt zg zr zm) := hD
  refine lv_aload_n hx hb dX6_roomsBySweep_5 rfl (lv_at hl 0 rfl) ?_
  refine kc_i (kr_V [] ⟨hx, hb, hml, hown, hts⟩ (cn_X6_give l G qy qyn qyt qyu qyf qyr qyb qyk qyi qyx yn yt yu yf yr yb yk yi yx (0 : Int32) zs zl zt zg zr zm hw H.size) (cwV 0 hts gX6_roomsBySweep_X6_give rfl rfl rfl (by decide +kernel) ⟨Nat.le_of_ble_eq_true rfl, Nat.le_of_ble_eq_true rfl⟩) hK hG hP hD hS hA [0, 1, 2, 3, 4, 5, 6, 7, 8, 9] rfl rfl 6 0 rfl rfl rfl hl.1 rfl (Nat.le_of_ble_eq_true rfl) dX6_roomsBySweep_6 ⟨Nat.le_of_ble_eq_true rfl, Nat.le_of_ble_eq_true rfl⟩) hP hD hS hA [0, 1, 2, 3, 4, 5, 6, 7, 8, 9] [] rfl rfl rfl (by decide) (fun r1 u H locs hw hP hD hS => ?_)
  obtain ⟨yr_2, rfl⟩ : ∃ z, z = u := ⟨_, rfl⟩
  try dsimp only at hw
  have hP := hP.sub (ws' := (w0_X6_roomsBySweep G qy qyn qyt qyu qyf qyr qyb qyk qyi qyx yn yt yu yf yr_2 yb yk yi yx (0 : Int32) zs zl zt zg zr zm)) [0, 1, 2, 3, 4, 5, 6, 7, 8, 9] rfl
  have hD := hD.sub (ws' := (w0_X6_roomsBySweep G qy qyn qyt qyu qyf qyr qyb qyk qyi qyx yn yt yu yf yr_2 yb yk yi yx (0 : Int32) zs zl zt zg zr zm)) [0, 1, 2, 3, 4, 5, 6, 7, 8, 9] rfl rfl
  exact fin_i (yr_2, (0 : Int32)) hx hb hr hlocks hK hS hP hD hw dX6_roomsBySweep_9

abbrev w0_X6_roomsByGiving (G : mG) (qy : Nat) (qyn : Nat) (qyt : Nat) (qyu : Nat) (qyf : Nat) (qyr : Nat) (qyb : Nat) (qyk : Nat) (qyi : Nat) (qyx : Nat) (yn : Nat → Int32) (yt : Nat → Int32) (yu : Nat → Int32) (yf : Nat → Int32) (yr : Nat → Int32) (yb : Nat → Int32) (yk : Nat → Int32) (yi : Nat → Int32) (yx : Nat → Int32) (za : Int32) (zs : Int32) (zl : Int32) (zt : Int32) (zg : Int32) (zr : Int32) (zm : Int32) : va_W := [(qy, .inr (6, [.int za, .ref qyn, .ref qyt, .ref qyu, .ref qyf, .ref qyr, .ref qyb, .int zs, .ref qyk, .ref qyi, .ref qyx, .int zl, .int zt, .int zg, .int zr, .int zm])), (qyn, .inl (gI G, (45, .inl yn))), (qyt, .inl (gI G, (45, .inl yt))), (qyu, .inl (gI G, (16384, .inl yu))), (qyf, .inl (gI G, (14, .inl yf))), (qyr, .inl (gI G, (14, .inl yr))), (qyb, .inl (gI G, (270, .inl yb))), (qyk, .inl (gI G, (90, .inl yk))), (qyi, .inl (gZ G, (2, .inl yi))), (qyx, .inl (gI G, (60, .inl yx)))]
set_option maxRecDepth 100000 in
theorem k_X6_roomsByGiving_inX6 : ∀ w ∈ u_ws RX6 TX6 16, w ∈ wsX6_roomsByGiving := by decide +kernel
set_option maxRecDepth 100000 in
theorem k_X6_roomsByGiving_f38 : Cond.fieldLink RX6 38 "RehearsalRoomModel" "refusal" "I" ∈ wsX6_roomsByGiving := by decide +kernel
set_option maxHeartbeats 8000000 in
set_option maxRecDepth 100000 in
theorem cn_X6_roomsByGiving (l : Launch) (G : mG) (qy : Nat) (qyn : Nat) (qyt : Nat) (qyu : Nat) (qyf : Nat) (qyr : Nat) (qyb : Nat) (qyk : Nat) (qyi : Nat) (qyx : Nat) (yn : Nat → Int32) (yt : Nat → Int32) (yu : Nat → Int32) (yf : Nat → Int32) (yr : Nat → Int32) (yb : Nat → Int32) (yk : Nat → Int32) (yi : Nat → Int32) (yx : Nat → Int32) (za : Int32) (zs : Int32) (zl : Int32) (zt : Int32) (zg : Int32) (zr : Int32) (zm : Int32) {Q : Int32 → (Nat → Int32) → Int32 → Prop} (hw : wn_X6_roomsByGiving yn yr za Q) (sz : Nat) :
    Met l yX6_roomsByGiving wsX6_roomsByGiving ({ frames := 2, cells := 0, slots := 0, locals := 51 } : Room) (va_Pc [.ref qy] (mPre G (w0_X6_roomsByGiving G qy qyn qyt qyu qyf qyr qyb qyk qyi qyx yn yt yu yf yr yb yk yi yx za zs zl zt zg zr zm) sz)) (va_Qi (fun (r : Int32) (u : (Nat → Int32) × Int32) => Q r u.1 u.2) (mBk G (va_A (w0_X6_roomsByGiving G qy qyn qyt qyu qyf qyr qyb qyk qyi qyx yn yt yu yf yr yb yk yi yx za zs zl zt zg zr zm) sz) (fun (u : (Nat → Int32) × Int32) => (w0_X6_roomsByGiving G qy qyn qyt qyu qyf qyr qyb qyk qyi qyx yn yt yu yf u.1 yb yk yi yx u.2 zs zl zt zg zr zm))) (va_A (w0_X6_roomsByGiving G qy qyn qyt qyu qyf qyr qyb qyk qyi qyx yn yt yu yf yr yb yk yi yx za zs zl zt zg zr zm) sz)) 0 0 (va_A (w0_X6_roomsByGiving G qy qyn qyt qyu qyf qyr qyb qyk qyi qyx yn yt yu yf yr yb yk yi yx za zs zl zt zg zr zm) sz) := by
  refine ms_i (cc := cX6_roomsByGiving) (maxL := 1) (ret := some .int) (post := (fun (r : Int32) (u : (Nat → Int32) × Int32) => Q r u.1 u.2)) (w1 := (fun (u : (Nat → Int32) × Int32) => (w0_X6_roomsByGiving G qy qyn qyt qyu qyf qyr qyb qyk qyi qyx yn yt yu yf u.1 yb yk yi yx u.2 zs zl zt zg zr zm))) (by decide) rfl (Nat.le_of_ble_eq_true rfl) ?_ sz
  intro p e s m below meth c A ls H locs hx hb hr hml hown hts hlocks hK hG hP hD hS hA hl
  have hown : s.vm.findClass RX6 = some m.cls := hown
  have hl : lv_has ls 1 [(0, .ref qy)] := hl
  unfold wn_X6_roomsByGiving at hw
  refine lv_aload_n hx hb dX6_roomsByGiving_0 rfl (lv_at hl 0 rfl) ?_
  refine lv_iconst (v := 0) hx hb dX6_roomsByGiving_1 (by decide) ?_
  refine va_put (D := gD G) (ci := 6) (v := .int (0 : Int32)) (ty := .int) (C := RX6) (T := TX6) (N := 16) hx hb hts k_X6_roomsByGiving_inX6 tyX6 tyX6_ok nmX6 hown hK hP hD hS 0 rfl rfl 0 (by decide) (hts _ k_X6_roomsByGiving_f38) (fun _ h9 => h9) rfl (by decide +kernel) rfl rfl (Nat.le_of_ble_eq_true rfl) dX6_roomsByGiving_2 (fun H locs hP hD hS => ?_)
  have hP : va_P (gD G) vwCl (w0_X6_roomsByGiving G qy qyn qyt qyu qyf qyr qyb qyk qyi qyx yn yt yu yf yr yb yk yi yx (0 : Int32) zs zl zt zg zr zm) H := hP
  have hD : va_D A (w0_X6_roomsByGiving G qy qyn qyt qyu qyf qyr qyb qyk qyi qyx yn yt yu yf yr yb yk yi yx (0 : Int32) zs zl zt zg zr zm) := hD
  refine lv_aload_n hx hb dX6_roomsByGiving_5 rfl (lv_at hl 0 rfl) ?_
  refine kc_i (kr_V [] ⟨hx, hb, hml, hown, hts⟩ (cn_X6_give l G qy qyn qyt qyu qyf qyr qyb qyk qyi qyx yn yt yu yf yr yb yk yi yx (0 : Int32) zs zl zt zg zr zm hw H.size) (cwV 0 hts gX6_roomsByGiving_X6_give rfl rfl rfl (by decide +kernel) ⟨Nat.le_of_ble_eq_true rfl, Nat.le_of_ble_eq_true rfl⟩) hK hG hP hD hS hA [0, 1, 2, 3, 4, 5, 6, 7, 8, 9] rfl rfl 6 0 rfl rfl rfl hl.1 rfl (Nat.le_of_ble_eq_true rfl) dX6_roomsByGiving_6 ⟨Nat.le_of_ble_eq_true rfl, Nat.le_of_ble_eq_true rfl⟩) hP hD hS hA [0, 1, 2, 3, 4, 5, 6, 7, 8, 9] [] rfl rfl rfl (by decide) (fun r1 u H locs hw hP hD hS => ?_)
  obtain ⟨yr_2, rfl⟩ : ∃ z, z = u := ⟨_, rfl⟩
  try dsimp only at hw
  have hP := hP.sub (ws' := (w0_X6_roomsByGiving G qy qyn qyt qyu qyf qyr qyb qyk qyi qyx yn yt yu yf yr_2 yb yk yi yx (0 : Int32) zs zl zt zg zr zm)) [0, 1, 2, 3, 4, 5, 6, 7, 8, 9] rfl
  have hD := hD.sub (ws' := (w0_X6_roomsByGiving G qy qyn qyt qyu qyf qyr qyb qyk qyi qyx yn yt yu yf yr_2 yb yk yi yx (0 : Int32) zs zl zt zg zr zm)) [0, 1, 2, 3, 4, 5, 6, 7, 8, 9] rfl rfl
  exact fin_i (yr_2, (0 : Int32)) hx hb hr hlocks hK hS hP hD hw dX6_roomsByGiving_9

abbrev w0_X6_roomOf (G : mG) (qy : Nat) (qyn : Nat) (qyt : Nat) (qyu : Nat) (qyf : Nat) (qyr : Nat) (qyb : Nat) (qyk : Nat) (qyi : Nat) (qyx : Nat) (yn : Nat → Int32) (yt : Nat → Int32) (yu : Nat → Int32) (yf : Nat → Int32) (yr : Nat → Int32) (yb : Nat → Int32) (yk : Nat → Int32) (yi : Nat → Int32) (yx : Nat → Int32) (za : Int32) (zs : Int32) (zl : Int32) (zt : Int32) (zg : Int32) (zr : Int32) (zm : Int32) : va_W := [(qy, .inr (6, [.int za, .ref qyn, .ref qyt, .ref qyu, .ref qyf, .ref qyr, .ref qyb, .int zs, .ref qyk, .ref qyi, .ref qyx, .int zl, .int zt, .int zg, .int zr, .int zm])), (qyn, .inl (gI G, (45, .inl yn))), (qyt, .inl (gI G, (45, .inl yt))), (qyu, .inl (gI G, (16384, .inl yu))), (qyf, .inl (gI G, (14, .inl yf))), (qyr, .inl (gI G, (14, .inl yr))), (qyb, .inl (gI G, (270, .inl yb))), (qyk, .inl (gI G, (90, .inl yk))), (qyi, .inl (gZ G, (2, .inl yi))), (qyx, .inl (gI G, (60, .inl yx)))]
set_option maxRecDepth 100000 in
theorem k_X6_roomOf_inX6 : ∀ w ∈ u_ws RX6 TX6 16, w ∈ wsX6_roomOf := by decide +kernel
set_option maxRecDepth 100000 in
theorem k_X6_roomOf_f22 : Cond.fieldLink RX6 22 "RehearsalRoomModel" "rooms" "[I" ∈ wsX6_roomOf := by decide +kernel
set_option maxHeartbeats 8000000 in
set_option maxRecDepth 100000 in
theorem cn_X6_roomOf (l : Launch) (G : mG) (qy : Nat) (qyn : Nat) (qyt : Nat) (qyu : Nat) (qyf : Nat) (qyr : Nat) (qyb : Nat) (qyk : Nat) (qyi : Nat) (qyx : Nat) (yn : Nat → Int32) (yt : Nat → Int32) (yu : Nat → Int32) (yf : Nat → Int32) (yr : Nat → Int32) (yb : Nat → Int32) (yk : Nat → Int32) (yi : Nat → Int32) (yx : Nat → Int32) (za : Int32) (zs : Int32) (zl : Int32) (zt : Int32) (zg : Int32) (zr : Int32) (zm : Int32) (a1 : Int32) {Q : Int32 → (Nat → Int32) → Int32 → Prop} (hw : wn_X6_roomOf yn yr za a1 Q) (sz : Nat) :
    Met l yX6_roomOf wsX6_roomOf ({ frames := 3, cells := 0, slots := 0, locals := 67 } : Room) (va_Pc [.ref qy, .int a1] (mPre G (w0_X6_roomOf G qy qyn qyt qyu qyf qyr qyb qyk qyi qyx yn yt yu yf yr yb yk yi yx za zs zl zt zg zr zm) sz)) (va_Qi (fun (r : Int32) (u : (Nat → Int32) × Int32) => Q r u.1 u.2) (mBk G (va_A (w0_X6_roomOf G qy qyn qyt qyu qyf qyr qyb qyk qyi qyx yn yt yu yf yr yb yk yi yx za zs zl zt zg zr zm) sz) (fun (u : (Nat → Int32) × Int32) => (w0_X6_roomOf G qy qyn qyt qyu qyf qyr qyb qyk qyi qyx yn yt yu yf u.1 yb yk yi yx u.2 zs zl zt zg zr zm))) (va_A (w0_X6_roomOf G qy qyn qyt qyu qyf qyr qyb qyk qyi qyx yn yt yu yf yr yb yk yi yx za zs zl zt zg zr zm) sz)) 0 0 (va_A (w0_X6_roomOf G qy qyn qyt qyu qyf qyr qyb qyk qyi qyx yn yt yu yf yr yb yk yi yx za zs zl zt zg zr zm) sz) := by
  refine ms_i (cc := cX6_roomOf) (maxL := 3) (ret := some .int) (post := (fun (r : Int32) (u : (Nat → Int32) × Int32) => Q r u.1 u.2)) (w1 := (fun (u : (Nat → Int32) × Int32) => (w0_X6_roomOf G qy qyn qyt qyu qyf qyr qyb qyk qyi qyx yn yt yu yf u.1 yb yk yi yx u.2 zs zl zt zg zr zm))) (by decide) rfl (Nat.le_of_ble_eq_true rfl) ?_ sz
  intro p e s m below meth c A ls H locs hx hb hr hml hown hts hlocks hK hG hP hD hS hA hl
  have hown : s.vm.findClass RX6 = some m.cls := hown
  have hl : lv_has ls 3 [(0, .ref qy), (1, .int a1)] := hl
  unfold wn_X6_roomOf at hw
  refine lv_aload_n hx hb dX6_roomOf_0 rfl (lv_at hl 0 rfl) ?_
  refine lv_iload_n hx hb dX6_roomOf_1 rfl (lv_at hl 1 rfl) ?_
  refine kc_i (kr_V [] ⟨hx, hb, hml, hown, hts⟩ (cn_X6_noOne l G qy qyn qyt qyu qyf qyr qyb qyk qyi qyx yn yt yu yf yr yb yk yi yx za zs zl zt zg zr zm a1 hw H.size) (cwV 1 hts gX6_roomOf_X6_noOne rfl rfl rfl (by decide +kernel) ⟨Nat.le_of_ble_eq_true rfl, Nat.le_of_ble_eq_true rfl⟩) hK hG hP hD hS hA [0, 1, 2, 3, 4, 5, 6, 7, 8, 9] rfl rfl 6 0 rfl rfl rfl hl.1 rfl (Nat.le_of_ble_eq_true rfl) dX6_roomOf_2 ⟨Nat.le_of_ble_eq_true rfl, Nat.le_of_ble_eq_true rfl⟩) hP hD hS hA [0, 1, 2, 3, 4, 5, 6, 7, 8, 9] [] rfl rfl rfl (by decide) (fun r1 u H locs hw hP hD hS => ?_)
  obtain ⟨za_2, rfl⟩ : ∃ z, z = u := ⟨_, rfl⟩
  try dsimp only at hw
  have hP := hP.sub (ws' := (w0_X6_roomOf G qy qyn qyt qyu qyf qyr qyb qyk qyi qyx yn yt yu yf yr yb yk yi yx za_2 zs zl zt zg zr zm)) [0, 1, 2, 3, 4, 5, 6, 7, 8, 9] rfl
  have hD := hD.sub (ws' := (w0_X6_roomOf G qy qyn qyt qyu qyf qyr qyb qyk qyi qyx yn yt yu yf yr yb yk yi yx za_2 zs zl zt zg zr zm)) [0, 1, 2, 3, 4, 5, 6, 7, 8, 9] rfl rfl
  obtain ⟨hz_r1, hw⟩ := hw
  refine lv_if_eq (tgt := 10) hx hb dX6_roomOf_5 (by decide) (fun cd3 => ?_) (fun cd3 => ?_)
  · have hw := hw.1 cd3
    refine lv_aload_n hx hb dX6_roomOf_10 rfl (lv_at hl 0 rfl) ?_
    refine kc_i (kr_V [] ⟨hx, hb, hml, hown, hts⟩ (cn_X6_give l G qy qyn qyt qyu qyf qyr qyb qyk qyi qyx yn yt yu yf yr yb yk yi yx za_2 zs zl zt zg zr zm hw H.size) (cwV 0 hts gX6_roomOf_X6_give rfl rfl rfl (by decide +kernel) ⟨Nat.le_of_ble_eq_true rfl, Nat.le_of_ble_eq_true rfl⟩) hK hG hP hD hS hA [0, 1, 2, 3, 4, 5, 6, 7, 8, 9] rfl rfl 6 0 rfl rfl rfl hl.1 rfl (Nat.le_of_ble_eq_true rfl) dX6_roomOf_11 ⟨Nat.le_of_ble_eq_true rfl, Nat.le_of_ble_eq_true rfl⟩) hP hD hS hA [0, 1, 2, 3, 4, 5, 6, 7, 8, 9] [] rfl rfl rfl (by decide) (fun r4 u H locs hw hP hD hS => ?_)
    obtain ⟨yr_5, rfl⟩ : ∃ z, z = u := ⟨_, rfl⟩
    try dsimp only at hw
    have hP := hP.sub (ws' := (w0_X6_roomOf G qy qyn qyt qyu qyf qyr qyb qyk qyi qyx yn yt yu yf yr_5 yb yk yi yx za_2 zs zl zt zg zr zm)) [0, 1, 2, 3, 4, 5, 6, 7, 8, 9] rfl
    have hD := hD.sub (ws' := (w0_X6_roomOf G qy qyn qyt qyu qyf qyr qyb qyk qyi qyx yn yt yu yf yr_5 yb yk yi yx za_2 zs zl zt zg zr zm)) [0, 1, 2, 3, 4, 5, 6, 7, 8, 9] rfl rfl
    refine lv_istore_n (lv' := [(2, .int r4), (0, .ref qy), (1, .int a1)]) hx hb dX6_roomOf_14 rfl hl (by decide) rfl (fun ls hl => ?_)
    refine lv_aload_n hx hb dX6_roomOf_15 rfl (lv_at hl 1 rfl) ?_
    refine va_get (D := gD G) (ci := 6) (v := .ref qyr) (C := RX6) (T := TX6) (N := 16) hx hb hts k_X6_roomOf_inX6 hown hK hP 0 rfl rfl 5 (by decide) (hts _ k_X6_roomOf_f22) (fun _ h9 => h9) rfl dX6_roomOf_16 ?_
    refine lv_iload_n hx hb dX6_roomOf_19 rfl (lv_at hl 2 rfl) ?_
    obtain ⟨h6, hw⟩ := hw
    refine va_iald hx hb hK hP 5 0 rfl rfl h6 dX6_roomOf_20 ?_
    exact fin_i (yr_5, za_2) hx hb hr hlocks hK hS hP hD hw dX6_roomOf_21
  · have hw := hw.2 cd3
    refine lv_iconst (v := 0) hx hb dX6_roomOf_8 (by decide) ?_
    exact fin_i (yr, za_2) hx hb hr hlocks hK hS hP hD hw dX6_roomOf_9

abbrev w0_X6_bestByTrying (G : mG) (qy : Nat) (qyn : Nat) (qyt : Nat) (qyu : Nat) (qyf : Nat) (qyr : Nat) (qyb : Nat) (qyk : Nat) (qyi : Nat) (qyx : Nat) (yn : Nat → Int32) (yt : Nat → Int32) (yu : Nat → Int32) (yf : Nat → Int32) (yr : Nat → Int32) (yb : Nat → Int32) (yk : Nat → Int32) (yi : Nat → Int32) (yx : Nat → Int32) (za : Int32) (zs : Int32) (zl : Int32) (zt : Int32) (zg : Int32) (zr : Int32) (zm : Int32) : va_W := [(qy, .inr (6, [.int za, .ref qyn, .ref qyt, .ref qyu, .ref qyf, .ref qyr, .ref qyb, .int zs, .ref qyk, .ref qyi, .ref qyx, .int zl, .int zt, .int zg, .int zr, .int zm])), (qyn, .inl (gI G, (45, .inl yn))), (qyt, .inl (gI G, (45, .inl yt))), (qyu, .inl (gI G, (16384, .inl yu))), (qyf, .inl (gI G, (14, .inl yf))), (qyr, .inl (gI G, (14, .inl yr))), (qyb, .inl (gI G, (270, .inl yb))), (qyk, .inl (gI G, (90, .inl yk))), (qyi, .inl (gZ G, (2, .inl yi))), (qyx, .inl (gI G, (60, .inl yx)))]
set_option maxRecDepth 100000 in
theorem k_X6_bestByTrying_inX6 : ∀ w ∈ u_ws RX6 TX6 16, w ∈ wsX6_bestByTrying := by decide +kernel
set_option maxRecDepth 100000 in
theorem k_X6_bestByTrying_f38 : Cond.fieldLink RX6 38 "RehearsalRoomModel" "refusal" "I" ∈ wsX6_bestByTrying := by decide +kernel
set_option maxHeartbeats 8000000 in
set_option maxRecDepth 100000 in
theorem cn_X6_bestByTrying (l : Launch) (G : mG) (qy : Nat) (qyn : Nat) (qyt : Nat) (qyu : Nat) (qyf : Nat) (qyr : Nat) (qyb : Nat) (qyk : Nat) (qyi : Nat) (qyx : Nat) (yn : Nat → Int32) (yt : Nat → Int32) (yu : Nat → Int32) (yf : Nat → Int32) (yr : Nat → Int32) (yb : Nat → Int32) (yk : Nat → Int32) (yi : Nat → Int32) (yx : Nat → Int32) (za : Int32) (zs : Int32) (zl : Int32) (zt : Int32) (zg : Int32) (zr : Int32) (zm : Int32) {Q : Int32 → (Nat → Int32) → (Nat → Int32) → Int32 → Prop} (hw : wn_X6_bestByTrying yn yu yf za Q) (sz : Nat) :
    Met l yX6_bestByTrying wsX6_bestByTrying ({ frames := 4, cells := 0, slots := 0, locals := 91 } : Room) (va_Pc [.ref qy] (mPre G (w0_X6_bestByTrying G qy qyn qyt qyu qyf qyr qyb qyk qyi qyx yn yt yu yf yr yb yk yi yx za zs zl zt zg zr zm) sz)) (va_Qi (fun (r : Int32) (u : (Nat → Int32) × (Nat → Int32) × Int32) => Q r u.1 u.2.1 u.2.2) (mBk G (va_A (w0_X6_bestByTrying G qy qyn qyt qyu qyf qyr qyb qyk qyi qyx yn yt yu yf yr yb yk yi yx za zs zl zt zg zr zm) sz) (fun (u : (Nat → Int32) × (Nat → Int32) × Int32) => (w0_X6_bestByTrying G qy qyn qyt qyu qyf qyr qyb qyk qyi qyx yn yt u.1 u.2.1 yr yb yk yi yx u.2.2 zs zl zt zg zr zm))) (va_A (w0_X6_bestByTrying G qy qyn qyt qyu qyf qyr qyb qyk qyi qyx yn yt yu yf yr yb yk yi yx za zs zl zt zg zr zm) sz)) 0 0 (va_A (w0_X6_bestByTrying G qy qyn qyt qyu qyf qyr qyb qyk qyi qyx yn yt yu yf yr yb yk yi yx za zs zl zt zg zr zm) sz) := by
  refine ms_i (cc := cX6_bestByTrying) (maxL := 1) (ret := some .int) (post := (fun (r : Int32) (u : (Nat → Int32) × (Nat → Int32) × Int32) => Q r u.1 u.2.1 u.2.2)) (w1 := (fun (u : (Nat → Int32) × (Nat → Int32) × Int32) => (w0_X6_bestByTrying G qy qyn qyt qyu qyf qyr qyb qyk qyi qyx yn yt u.1 u.2.1 yr yb yk yi yx u.2.2 zs zl zt zg zr zm))) (by decide) rfl (Nat.le_of_ble_eq_true rfl) ?_ sz
  intro p e s m below meth c A ls H locs hx hb hr hml hown hts hlocks hK hG hP hD hS hA hl
  have hown : s.vm.findClass RX6 = some m.cls := hown
  have hl : lv_has ls 1 [(0, .ref qy)] := hl
  unfold wn_X6_bestByTrying at hw
  refine lv_aload_n hx hb dX6_bestByTrying_0 rfl (lv_at hl 0 rfl) ?_
  refine lv_iconst (v := 0) hx hb dX6_bestByTrying_1 (by decide) ?_
  refine va_put (D := gD G) (ci := 6) (v := .int (0 : Int32)) (ty := .int) (C := RX6) (T := TX6) (N := 16) hx hb hts k_X6_bestByTrying_inX6 tyX6 tyX6_ok nmX6 hown hK hP hD hS 0 rfl rfl 0 (by decide) (hts _ k_X6_bestByTrying_f38) (fun _ h9 => h9) rfl (by decide +kernel) rfl rfl (Nat.le_of_ble_eq_true rfl) dX6_bestByTrying_2 (fun H locs hP hD hS => ?_)
  have hP : va_P (gD G) vwCl (w0_X6_bestByTrying G qy qyn qyt qyu qyf qyr qyb qyk qyi qyx yn yt yu yf yr yb yk yi yx (0 : Int32) zs zl zt zg zr zm) H := hP
  have hD : va_D A (w0_X6_bestByTrying G qy qyn qyt qyu qyf qyr qyb qyk qyi qyx yn yt yu yf yr yb yk yi yx (0 : Int32) zs zl zt zg zr zm) := hD
  refine lv_aload_n hx hb dX6_bestByTrying_5 rfl (lv_at hl 0 rfl) ?_
  refine kc_i (kr_V [] ⟨hx, hb, hml, hown, hts⟩ (cn_X6_bestFame l G qy qyn qyt qyu qyf qyr qyb qyk qyi qyx yn yt yu yf yr yb yk yi yx (0 : Int32) zs zl zt zg zr zm hw H.size) (cwV 0 hts gX6_bestByTrying_X6_bestFame rfl rfl rfl (by decide +kernel) ⟨Nat.le_of_ble_eq_true rfl, Nat.le_of_ble_eq_true rfl⟩) hK hG hP hD hS hA [0, 1, 2, 3, 4, 5, 6, 7, 8, 9] rfl rfl 6 0 rfl rfl rfl hl.1 rfl (Nat.le_of_ble_eq_true rfl) dX6_bestByTrying_6 ⟨Nat.le_of_ble_eq_true rfl, Nat.le_of_ble_eq_true rfl⟩) hP hD hS hA [0, 1, 2, 3, 4, 5, 6, 7, 8, 9] [] rfl rfl rfl (by decide) (fun r1 u H locs hw hP hD hS => ?_)
  obtain ⟨yu_2, yf_3⟩ := u
  try dsimp only at hw
  have hP := hP.sub (ws' := (w0_X6_bestByTrying G qy qyn qyt qyu qyf qyr qyb qyk qyi qyx yn yt yu_2 yf_3 yr yb yk yi yx (0 : Int32) zs zl zt zg zr zm)) [0, 1, 2, 3, 4, 5, 6, 7, 8, 9] rfl
  have hD := hD.sub (ws' := (w0_X6_bestByTrying G qy qyn qyt qyu qyf qyr qyb qyk qyi qyx yn yt yu_2 yf_3 yr yb yk yi yx (0 : Int32) zs zl zt zg zr zm)) [0, 1, 2, 3, 4, 5, 6, 7, 8, 9] rfl rfl
  exact fin_i (yu_2, yf_3, (0 : Int32)) hx hb hr hlocks hK hS hP hD hw dX6_bestByTrying_9

abbrev w0_X6_bestByTable (G : mG) (qy : Nat) (qyn : Nat) (qyt : Nat) (qyu : Nat) (qyf : Nat) (qyr : Nat) (qyb : Nat) (qyk : Nat) (qyi : Nat) (qyx : Nat) (yn : Nat → Int32) (yt : Nat → Int32) (yu : Nat → Int32) (yf : Nat → Int32) (yr : Nat → Int32) (yb : Nat → Int32) (yk : Nat → Int32) (yi : Nat → Int32) (yx : Nat → Int32) (za : Int32) (zs : Int32) (zl : Int32) (zt : Int32) (zg : Int32) (zr : Int32) (zm : Int32) : va_W := [(qy, .inr (6, [.int za, .ref qyn, .ref qyt, .ref qyu, .ref qyf, .ref qyr, .ref qyb, .int zs, .ref qyk, .ref qyi, .ref qyx, .int zl, .int zt, .int zg, .int zr, .int zm])), (qyn, .inl (gI G, (45, .inl yn))), (qyt, .inl (gI G, (45, .inl yt))), (qyu, .inl (gI G, (16384, .inl yu))), (qyf, .inl (gI G, (14, .inl yf))), (qyr, .inl (gI G, (14, .inl yr))), (qyb, .inl (gI G, (270, .inl yb))), (qyk, .inl (gI G, (90, .inl yk))), (qyi, .inl (gZ G, (2, .inl yi))), (qyx, .inl (gI G, (60, .inl yx)))]
set_option maxRecDepth 100000 in
theorem k_X6_bestByTable_inX6 : ∀ w ∈ u_ws RX6 TX6 16, w ∈ wsX6_bestByTable := by decide +kernel
set_option maxRecDepth 100000 in
theorem k_X6_bestByTable_f38 : Cond.fieldLink RX6 38 "RehearsalRoomModel" "refusal" "I" ∈ wsX6_bestByTable := by decide +kernel
set_option maxHeartbeats 8000000 in
set_option maxRecDepth 100000 in
theorem cn_X6_bestByTable (l : Launch) (G : mG) (qy : Nat) (qyn : Nat) (qyt : Nat) (qyu : Nat) (qyf : Nat) (qyr : Nat) (qyb : Nat) (qyk : Nat) (qyi : Nat) (qyx : Nat) (yn : Nat → Int32) (yt : Nat → Int32) (yu : Nat → Int32) (yf : Nat → Int32) (yr : Nat → Int32) (yb : Nat → Int32) (yk : Nat → Int32) (yi : Nat → Int32) (yx : Nat → Int32) (za : Int32) (zs : Int32) (zl : Int32) (zt : Int32) (zg : Int32) (zr : Int32) (zm : Int32) {Q : Int32 → (Nat → Int32) → (Nat → Int32) → Int32 → Prop} (hw : wn_X6_bestByTable yn yu yf za Q) (sz : Nat) :
    Met l yX6_bestByTable wsX6_bestByTable ({ frames := 4, cells := 0, slots := 0, locals := 91 } : Room) (va_Pc [.ref qy] (mPre G (w0_X6_bestByTable G qy qyn qyt qyu qyf qyr qyb qyk qyi qyx yn yt yu yf yr yb yk yi yx za zs zl zt zg zr zm) sz)) (va_Qi (fun (r : Int32) (u : (Nat → Int32) × (Nat → Int32) × Int32) => Q r u.1 u.2.1 u.2.2) (mBk G (va_A (w0_X6_bestByTable G qy qyn qyt qyu qyf qyr qyb qyk qyi qyx yn yt yu yf yr yb yk yi yx za zs zl zt zg zr zm) sz) (fun (u : (Nat → Int32) × (Nat → Int32) × Int32) => (w0_X6_bestByTable G qy qyn qyt qyu qyf qyr qyb qyk qyi qyx yn yt u.1 u.2.1 yr yb yk yi yx u.2.2 zs zl zt zg zr zm))) (va_A (w0_X6_bestByTable G qy qyn qyt qyu qyf qyr qyb qyk qyi qyx yn yt yu yf yr yb yk yi yx za zs zl zt zg zr zm) sz)) 0 0 (va_A (w0_X6_bestByTable G qy qyn qyt qyu qyf qyr qyb qyk qyi qyx yn yt yu yf yr yb yk yi yx za zs zl zt zg zr zm) sz) := by
  refine ms_i (cc := cX6_bestByTable) (maxL := 1) (ret := some .int) (post := (fun (r : Int32) (u : (Nat → Int32) × (Nat → Int32) × Int32) => Q r u.1 u.2.1 u.2.2)) (w1 := (fun (u : (Nat → Int32) × (Nat → Int32) × Int32) => (w0_X6_bestByTable G qy qyn qyt qyu qyf qyr qyb qyk qyi qyx yn yt u.1 u.2.1 yr yb yk yi yx u.2.2 zs zl zt zg zr zm))) (by decide) rfl (Nat.le_of_ble_eq_true rfl) ?_ sz
  intro p e s m below meth c A ls H locs hx hb hr hml hown hts hlocks hK hG hP hD hS hA hl
  have hown : s.vm.findClass RX6 = some m.cls := hown
  have hl : lv_has ls 1 [(0, .ref qy)] := hl
  unfold wn_X6_bestByTable at hw
  refine lv_aload_n hx hb dX6_bestByTable_0 rfl (lv_at hl 0 rfl) ?_
  refine lv_iconst (v := 0) hx hb dX6_bestByTable_1 (by decide) ?_
  refine va_put (D := gD G) (ci := 6) (v := .int (0 : Int32)) (ty := .int) (C := RX6) (T := TX6) (N := 16) hx hb hts k_X6_bestByTable_inX6 tyX6 tyX6_ok nmX6 hown hK hP hD hS 0 rfl rfl 0 (by decide) (hts _ k_X6_bestByTable_f38) (fun _ h9 => h9) rfl (by decide +kernel) rfl rfl (Nat.le_of_ble_eq_true rfl) dX6_bestByTable_2 (fun H locs hP hD hS => ?_)
  have hP : va_P (gD G) vwCl (w0_X6_bestByTable G qy qyn qyt qyu qyf qyr qyb qyk qyi qyx yn yt yu yf yr yb yk yi yx (0 : Int32) zs zl zt zg zr zm) H := hP
  have hD : va_D A (w0_X6_bestByTable G qy qyn qyt qyu qyf qyr qyb qyk qyi qyx yn yt yu yf yr yb yk yi yx (0 : Int32) zs zl zt zg zr zm) := hD
  refine lv_aload_n hx hb dX6_bestByTable_5 rfl (lv_at hl 0 rfl) ?_
  refine kc_i (kr_V [] ⟨hx, hb, hml, hown, hts⟩ (cn_X6_bestFame l G qy qyn qyt qyu qyf qyr qyb qyk qyi qyx yn yt yu yf yr yb yk yi yx (0 : Int32) zs zl zt zg zr zm hw H.size) (cwV 0 hts gX6_bestByTable_X6_bestFame rfl rfl rfl (by decide +kernel) ⟨Nat.le_of_ble_eq_true rfl, Nat.le_of_ble_eq_true rfl⟩) hK hG hP hD hS hA [0, 1, 2, 3, 4, 5, 6, 7, 8, 9] rfl rfl 6 0 rfl rfl rfl hl.1 rfl (Nat.le_of_ble_eq_true rfl) dX6_bestByTable_6 ⟨Nat.le_of_ble_eq_true rfl, Nat.le_of_ble_eq_true rfl⟩) hP hD hS hA [0, 1, 2, 3, 4, 5, 6, 7, 8, 9] [] rfl rfl rfl (by decide) (fun r1 u H locs hw hP hD hS => ?_)
  obtain ⟨yu_2, yf_3⟩ := u
  try dsimp only at hw
  have hP := hP.sub (ws' := (w0_X6_bestByTable G qy qyn qyt qyu qyf qyr qyb qyk qyi qyx yn yt yu_2 yf_3 yr yb yk yi yx (0 : Int32) zs zl zt zg zr zm)) [0, 1, 2, 3, 4, 5, 6, 7, 8, 9] rfl
  have hD := hD.sub (ws' := (w0_X6_bestByTable G qy qyn qyt qyu qyf qyr qyb qyk qyi qyx yn yt yu_2 yf_3 yr yb yk yi yx (0 : Int32) zs zl zt zg zr zm)) [0, 1, 2, 3, 4, 5, 6, 7, 8, 9] rfl rfl
  exact fin_i (yu_2, yf_3, (0 : Int32)) hx hb hr hlocks hK hS hP hD hw dX6_bestByTable_9

abbrev w0_X6_bestChoice (G : mG) (qy : Nat) (qyn : Nat) (qyt : Nat) (qyu : Nat) (qyf : Nat) (qyr : Nat) (qyb : Nat) (qyk : Nat) (qyi : Nat) (qyx : Nat) (yn : Nat → Int32) (yt : Nat → Int32) (yu : Nat → Int32) (yf : Nat → Int32) (yr : Nat → Int32) (yb : Nat → Int32) (yk : Nat → Int32) (yi : Nat → Int32) (yx : Nat → Int32) (za : Int32) (zs : Int32) (zl : Int32) (zt : Int32) (zg : Int32) (zr : Int32) (zm : Int32) : va_W := [(qy, .inr (6, [.int za, .ref qyn, .ref qyt, .ref qyu, .ref qyf, .ref qyr, .ref qyb, .int zs, .ref qyk, .ref qyi, .ref qyx, .int zl, .int zt, .int zg, .int zr, .int zm])), (qyn, .inl (gI G, (45, .inl yn))), (qyt, .inl (gI G, (45, .inl yt))), (qyu, .inl (gI G, (16384, .inl yu))), (qyf, .inl (gI G, (14, .inl yf))), (qyr, .inl (gI G, (14, .inl yr))), (qyb, .inl (gI G, (270, .inl yb))), (qyk, .inl (gI G, (90, .inl yk))), (qyi, .inl (gZ G, (2, .inl yi))), (qyx, .inl (gI G, (60, .inl yx)))]
set_option maxRecDepth 100000 in
theorem k_X6_bestChoice_inX6 : ∀ w ∈ u_ws RX6 TX6 16, w ∈ wsX6_bestChoice := by decide +kernel
set_option maxRecDepth 100000 in
theorem k_X6_bestChoice_f38 : Cond.fieldLink RX6 38 "RehearsalRoomModel" "refusal" "I" ∈ wsX6_bestChoice := by decide +kernel
set_option maxHeartbeats 8000000 in
set_option maxRecDepth 100000 in
theorem cn_X6_bestChoice (l : Launch) (G : mG) (qy : Nat) (qyn : Nat) (qyt : Nat) (qyu : Nat) (qyf : Nat) (qyr : Nat) (qyb : Nat) (qyk : Nat) (qyi : Nat) (qyx : Nat) (yn : Nat → Int32) (yt : Nat → Int32) (yu : Nat → Int32) (yf : Nat → Int32) (yr : Nat → Int32) (yb : Nat → Int32) (yk : Nat → Int32) (yi : Nat → Int32) (yx : Nat → Int32) (za : Int32) (zs : Int32) (zl : Int32) (zt : Int32) (zg : Int32) (zr : Int32) (zm : Int32) {Q : Int32 → (Nat → Int32) → (Nat → Int32) → Int32 → Prop} (hw : wn_X6_bestChoice yn yu yf za Q) (sz : Nat) :
    Met l yX6_bestChoice wsX6_bestChoice ({ frames := 3, cells := 0, slots := 0, locals := 71 } : Room) (va_Pc [.ref qy] (mPre G (w0_X6_bestChoice G qy qyn qyt qyu qyf qyr qyb qyk qyi qyx yn yt yu yf yr yb yk yi yx za zs zl zt zg zr zm) sz)) (va_Qi (fun (r : Int32) (u : (Nat → Int32) × (Nat → Int32) × Int32) => Q r u.1 u.2.1 u.2.2) (mBk G (va_A (w0_X6_bestChoice G qy qyn qyt qyu qyf qyr qyb qyk qyi qyx yn yt yu yf yr yb yk yi yx za zs zl zt zg zr zm) sz) (fun (u : (Nat → Int32) × (Nat → Int32) × Int32) => (w0_X6_bestChoice G qy qyn qyt qyu qyf qyr qyb qyk qyi qyx yn yt u.1 u.2.1 yr yb yk yi yx u.2.2 zs zl zt zg zr zm))) (va_A (w0_X6_bestChoice G qy qyn qyt qyu qyf qyr qyb qyk qyi qyx yn yt yu yf yr yb yk yi yx za zs zl zt zg zr zm) sz)) 0 0 (va_A (w0_X6_bestChoice G qy qyn qyt qyu qyf qyr qyb qyk qyi qyx yn yt yu yf yr yb yk yi yx za zs zl zt zg zr zm) sz) := by
  refine ms_i (cc := cX6_bestChoice) (maxL := 1) (ret := some .int) (post := (fun (r : Int32) (u : (Nat → Int32) × (Nat → Int32) × Int32) => Q r u.1 u.2.1 u.2.2)) (w1 := (fun (u : (Nat → Int32) × (Nat → Int32) × Int32) => (w0_X6_bestChoice G qy qyn qyt qyu qyf qyr qyb qyk qyi qyx yn yt u.1 u.2.1 yr yb yk yi yx u.2.2 zs zl zt zg zr zm))) (by decide) rfl (Nat.le_of_ble_eq_true rfl) ?_ sz
  intro p e s m below meth c A ls H locs hx hb hr hml hown hts hlocks hK hG hP hD hS hA hl
  have hown : s.vm.findClass RX6 = some m.cls := hown
  have hl : lv_has ls 1 [(0, .ref qy)] := hl
  unfold wn_X6_bestChoice at hw
  refine lv_aload_n hx hb dX6_bestChoice_0 rfl (lv_at hl 0 rfl) ?_
  refine lv_iconst (v := 0) hx hb dX6_bestChoice_1 (by decide) ?_
  refine va_put (D := gD G) (ci := 6) (v := .int (0 : Int32)) (ty := .int) (C := RX6) (T := TX6) (N := 16) hx hb hts k_X6_bestChoice_inX6 tyX6 tyX6_ok nmX6 hown hK hP hD hS 0 rfl rfl 0 (by decide) (hts _ k_X6_bestChoice_f38) (fun _ h9 => h9) rfl (by decide +kernel) rfl rfl (Nat.le_of_ble_eq_true rfl) dX6_bestChoice_2 (fun H locs hP hD hS => ?_)
  have hP : va_P (gD G) vwCl (w0_X6_bestChoice G qy qyn qyt qyu qyf qyr qyb qyk qyi qyx yn yt yu yf yr yb yk yi yx (0 : Int32) zs zl zt zg zr zm) H := hP
  have hD : va_D A (w0_X6_bestChoice G qy qyn qyt qyu qyf qyr qyb qyk qyi qyx yn yt yu yf yr yb yk yi yx (0 : Int32) zs zl zt zg zr zm) := hD
  refine lv_aload_n hx hb dX6_bestChoice_5 rfl (lv_at hl 0 rfl) ?_
  refine lv_aload_n hx hb dX6_bestChoice_6 rfl (lv_at hl 0 rfl) ?_
  refine kc_i (kr_V [.ref qy] ⟨hx, hb, hml, hown, hts⟩ (cn_X6_fill l G qy qyn qyt qyu qyf qyr qyb qyk qyi qyx yn yt yu yf yr yb yk yi yx (0 : Int32) zs zl zt zg zr zm hw H.size) (cwV 0 hts gX6_bestChoice_X6_fill rfl rfl rfl (by decide +kernel) ⟨Nat.le_of_ble_eq_true rfl, Nat.le_of_ble_eq_true rfl⟩) hK hG hP hD hS hA [0, 1, 2, 3, 4, 5, 6, 7, 8, 9] rfl rfl 6 0 rfl rfl rfl hl.1 rfl (Nat.le_of_ble_eq_true rfl) dX6_bestChoice_7 ⟨Nat.le_of_ble_eq_true rfl, Nat.le_of_ble_eq_true rfl⟩) hP hD hS hA [0, 1, 2, 3, 4, 5, 6, 7, 8, 9] [] rfl rfl rfl (by decide) (fun r1 u H locs hw hP hD hS => ?_)
  obtain ⟨yu_2, yf_3⟩ := u
  try dsimp only at hw
  have hP := hP.sub (ws' := (w0_X6_bestChoice G qy qyn qyt qyu qyf qyr qyb qyk qyi qyx yn yt yu_2 yf_3 yr yb yk yi yx (0 : Int32) zs zl zt zg zr zm)) [0, 1, 2, 3, 4, 5, 6, 7, 8, 9] rfl
  have hD := hD.sub (ws' := (w0_X6_bestChoice G qy qyn qyt qyu qyf qyr qyb qyk qyi qyx yn yt yu_2 yf_3 yr yb yk yi yx (0 : Int32) zs zl zt zg zr zm)) [0, 1, 2, 3, 4, 5, 6, 7, 8, 9] rfl rfl
  refine lv_iconst (v := 0) hx hb dX6_bestChoice_10 (by decide) ?_
  refine kcR_i (kr_V [] ⟨hx, hb, hml, hown, hts⟩ (cn_X6_bestSet l G qy qyn qyt qyu qyf qyr qyb qyk qyi qyx yn yt yu_2 yf_3 yr yb yk yi yx (0 : Int32) zs zl zt zg zr zm r1 (0 : Int32) hw H.size) (cwV 2 hts gX6_bestChoice_X6_bestSet rfl rfl rfl (by decide +kernel) ⟨Nat.le_of_ble_eq_true rfl, Nat.le_of_ble_eq_true rfl⟩) hK hG hP hD hS hA [0, 1, 2, 3, 4, 5, 6, 7, 8, 9] rfl rfl 6 0 rfl rfl rfl hl.1 rfl (Nat.le_of_ble_eq_true rfl) dX6_bestChoice_11 ⟨Nat.le_of_ble_eq_true rfl, Nat.le_of_ble_eq_true rfl⟩) hP hD hS hA [0, 1, 2, 3, 4, 5, 6, 7, 8, 9] rfl (fun r4 u H locs hw hP hS => ?_)
  try dsimp only at hw
  exact fin_i (yu_2, yf_3, (0 : Int32)) hx hb hr hlocks hK hS hP hD hw dX6_bestChoice_14

abbrev w0_X6_mostRehearsals (G : mG) (qy : Nat) (qyn : Nat) (qyt : Nat) (qyu : Nat) (qyf : Nat) (qyr : Nat) (qyb : Nat) (qyk : Nat) (qyi : Nat) (qyx : Nat) (yn : Nat → Int32) (yt : Nat → Int32) (yu : Nat → Int32) (yf : Nat → Int32) (yr : Nat → Int32) (yb : Nat → Int32) (yk : Nat → Int32) (yi : Nat → Int32) (yx : Nat → Int32) (za : Int32) (zs : Int32) (zl : Int32) (zt : Int32) (zg : Int32) (zr : Int32) (zm : Int32) : va_W := [(qy, .inr (6, [.int za, .ref qyn, .ref qyt, .ref qyu, .ref qyf, .ref qyr, .ref qyb, .int zs, .ref qyk, .ref qyi, .ref qyx, .int zl, .int zt, .int zg, .int zr, .int zm])), (qyn, .inl (gI G, (45, .inl yn))), (qyt, .inl (gI G, (45, .inl yt))), (qyu, .inl (gI G, (16384, .inl yu))), (qyf, .inl (gI G, (14, .inl yf))), (qyr, .inl (gI G, (14, .inl yr))), (qyb, .inl (gI G, (270, .inl yb))), (qyk, .inl (gI G, (90, .inl yk))), (qyi, .inl (gZ G, (2, .inl yi))), (qyx, .inl (gI G, (60, .inl yx)))]
set_option maxRecDepth 100000 in
theorem k_X6_mostRehearsals_inX6 : ∀ w ∈ u_ws RX6 TX6 16, w ∈ wsX6_mostRehearsals := by decide +kernel
set_option maxRecDepth 100000 in
theorem k_X6_mostRehearsals_f38 : Cond.fieldLink RX6 38 "RehearsalRoomModel" "refusal" "I" ∈ wsX6_mostRehearsals := by decide +kernel
set_option maxHeartbeats 8000000 in
set_option maxRecDepth 100000 in
theorem cn_X6_mostRehearsals (l : Launch) (G : mG) (qy : Nat) (qyn : Nat) (qyt : Nat) (qyu : Nat) (qyf : Nat) (qyr : Nat) (qyb : Nat) (qyk : Nat) (qyi : Nat) (qyx : Nat) (yn : Nat → Int32) (yt : Nat → Int32) (yu : Nat → Int32) (yf : Nat → Int32) (yr : Nat → Int32) (yb : Nat → Int32) (yk : Nat → Int32) (yi : Nat → Int32) (yx : Nat → Int32) (za : Int32) (zs : Int32) (zl : Int32) (zt : Int32) (zg : Int32) (zr : Int32) (zm : Int32) {Q : Int32 → (Nat → Int32) → (Nat → Int32) → Int32 → Prop} (hw : wn_X6_mostRehearsals yn yu yf za Q) (sz : Nat) :
    Met l yX6_mostRehearsals wsX6_mostRehearsals ({ frames := 4, cells := 0, slots := 0, locals := 95 } : Room) (va_Pc [.ref qy] (mPre G (w0_X6_mostRehearsals G qy qyn qyt qyu qyf qyr qyb qyk qyi qyx yn yt yu yf yr yb yk yi yx za zs zl zt zg zr zm) sz)) (va_Qi (fun (r : Int32) (u : (Nat → Int32) × (Nat → Int32) × Int32) => Q r u.1 u.2.1 u.2.2) (mBk G (va_A (w0_X6_mostRehearsals G qy qyn qyt qyu qyf qyr qyb qyk qyi qyx yn yt yu yf yr yb yk yi yx za zs zl zt zg zr zm) sz) (fun (u : (Nat → Int32) × (Nat → Int32) × Int32) => (w0_X6_mostRehearsals G qy qyn qyt qyu qyf qyr qyb qyk qyi qyx yn yt u.1 u.2.1 yr yb yk yi yx u.2.2 zs zl zt zg zr zm))) (va_A (w0_X6_mostRehearsals G qy qyn qyt qyu qyf qyr qyb qyk qyi qyx yn yt yu yf yr yb yk yi yx za zs zl zt zg zr zm) sz)) 0 0 (va_A (w0_X6_mostRehearsals G qy qyn qyt qyu qyf qyr qyb qyk qyi qyx yn yt yu yf yr yb yk yi yx za zs zl zt zg zr zm) sz) := by
  refine ms_i (cc := cX6_mostRehearsals) (maxL := 1) (ret := some .int) (post := (fun (r : Int32) (u : (Nat → Int32) × (Nat → Int32) × Int32) => Q r u.1 u.2.1 u.2.2)) (w1 := (fun (u : (Nat → Int32) × (Nat → Int32) × Int32) => (w0_X6_mostRehearsals G qy qyn qyt qyu qyf qyr qyb qyk qyi qyx yn yt u.1 u.2.1 yr yb yk yi yx u.2.2 zs zl zt zg zr zm))) (by decide) rfl (Nat.le_of_ble_eq_true rfl) ?_ sz
  intro p e s m below meth c A ls H locs hx hb hr hml hown hts hlocks hK hG hP hD hS hA hl
  have hown : s.vm.findClass RX6 = some m.cls := hown
  have hl : lv_has ls 1 [(0, .ref qy)] := hl
  unfold wn_X6_mostRehearsals at hw
  refine lv_aload_n hx hb dX6_mostRehearsals_0 rfl (lv_at hl 0 rfl) ?_
  refine lv_iconst (v := 0) hx hb dX6_mostRehearsals_1 (by decide) ?_
  refine va_put (D := gD G) (ci := 6) (v := .int (0 : Int32)) (ty := .int) (C := RX6) (T := TX6) (N := 16) hx hb hts k_X6_mostRehearsals_inX6 tyX6 tyX6_ok nmX6 hown hK hP hD hS 0 rfl rfl 0 (by decide) (hts _ k_X6_mostRehearsals_f38) (fun _ h9 => h9) rfl (by decide +kernel) rfl rfl (Nat.le_of_ble_eq_true rfl) dX6_mostRehearsals_2 (fun H locs hP hD hS => ?_)
  have hP : va_P (gD G) vwCl (w0_X6_mostRehearsals G qy qyn qyt qyu qyf qyr qyb qyk qyi qyx yn yt yu yf yr yb yk yi yx (0 : Int32) zs zl zt zg zr zm) H := hP
  have hD : va_D A (w0_X6_mostRehearsals G qy qyn qyt qyu qyf qyr qyb qyk qyi qyx yn yt yu yf yr yb yk yi yx (0 : Int32) zs zl zt zg zr zm) := hD
  refine lv_aload_n hx hb dX6_mostRehearsals_5 rfl (lv_at hl 0 rfl) ?_
  refine kc_i (kr_V [] ⟨hx, hb, hml, hown, hts⟩ (cn_X6_most l G qy qyn qyt qyu qyf qyr qyb qyk qyi qyx yn yt yu yf yr yb yk yi yx (0 : Int32) zs zl zt zg zr zm hw H.size) (cwV 0 hts gX6_mostRehearsals_X6_most rfl rfl rfl (by decide +kernel) ⟨Nat.le_of_ble_eq_true rfl, Nat.le_of_ble_eq_true rfl⟩) hK hG hP hD hS hA [0, 1, 2, 3, 4, 5, 6, 7, 8, 9] rfl rfl 6 0 rfl rfl rfl hl.1 rfl (Nat.le_of_ble_eq_true rfl) dX6_mostRehearsals_6 ⟨Nat.le_of_ble_eq_true rfl, Nat.le_of_ble_eq_true rfl⟩) hP hD hS hA [0, 1, 2, 3, 4, 5, 6, 7, 8, 9] [] rfl rfl rfl (by decide) (fun r1 u H locs hw hP hD hS => ?_)
  obtain ⟨yu_2, yf_3⟩ := u
  try dsimp only at hw
  have hP := hP.sub (ws' := (w0_X6_mostRehearsals G qy qyn qyt qyu qyf qyr qyb qyk qyi qyx yn yt yu_2 yf_3 yr yb yk yi yx (0 : Int32) zs zl zt zg zr zm)) [0, 1, 2, 3, 4, 5, 6, 7, 8, 9] rfl
  have hD := hD.sub (ws' := (w0_X6_mostRehearsals G qy qyn qyt qyu qyf qyr qyb qyk qyi qyx yn yt yu_2 yf_3 yr yb yk yi yx (0 : Int32) zs zl zt zg zr zm)) [0, 1, 2, 3, 4, 5, 6, 7, 8, 9] rfl rfl
  exact fin_i (yu_2, yf_3, (0 : Int32)) hx hb hr hlocks hK hS hP hD hw dX6_mostRehearsals_9

abbrev w0_X6_bestWith (G : mG) (qy : Nat) (qyn : Nat) (qyt : Nat) (qyu : Nat) (qyf : Nat) (qyr : Nat) (qyb : Nat) (qyk : Nat) (qyi : Nat) (qyx : Nat) (yn : Nat → Int32) (yt : Nat → Int32) (yu : Nat → Int32) (yf : Nat → Int32) (yr : Nat → Int32) (yb : Nat → Int32) (yk : Nat → Int32) (yi : Nat → Int32) (yx : Nat → Int32) (za : Int32) (zs : Int32) (zl : Int32) (zt : Int32) (zg : Int32) (zr : Int32) (zm : Int32) : va_W := [(qy, .inr (6, [.int za, .ref qyn, .ref qyt, .ref qyu, .ref qyf, .ref qyr, .ref qyb, .int zs, .ref qyk, .ref qyi, .ref qyx, .int zl, .int zt, .int zg, .int zr, .int zm])), (qyn, .inl (gI G, (45, .inl yn))), (qyt, .inl (gI G, (45, .inl yt))), (qyu, .inl (gI G, (16384, .inl yu))), (qyf, .inl (gI G, (14, .inl yf))), (qyr, .inl (gI G, (14, .inl yr))), (qyb, .inl (gI G, (270, .inl yb))), (qyk, .inl (gI G, (90, .inl yk))), (qyi, .inl (gZ G, (2, .inl yi))), (qyx, .inl (gI G, (60, .inl yx)))]
set_option maxRecDepth 100000 in
theorem k_X6_bestWith_inX6 : ∀ w ∈ u_ws RX6 TX6 16, w ∈ wsX6_bestWith := by decide +kernel
set_option maxRecDepth 100000 in
theorem k_X6_bestWith_f16 : Cond.fieldLink RX6 16 "RehearsalRoomModel" "sums" "[I" ∈ wsX6_bestWith := by decide +kernel
set_option maxHeartbeats 8000000 in
set_option maxRecDepth 100000 in
theorem cn_X6_bestWith (l : Launch) (G : mG) (qy : Nat) (qyn : Nat) (qyt : Nat) (qyu : Nat) (qyf : Nat) (qyr : Nat) (qyb : Nat) (qyk : Nat) (qyi : Nat) (qyx : Nat) (yn : Nat → Int32) (yt : Nat → Int32) (yu : Nat → Int32) (yf : Nat → Int32) (yr : Nat → Int32) (yb : Nat → Int32) (yk : Nat → Int32) (yi : Nat → Int32) (yx : Nat → Int32) (za : Int32) (zs : Int32) (zl : Int32) (zt : Int32) (zg : Int32) (zr : Int32) (zm : Int32) (a1 : Int32) {Q : Int32 → (Nat → Int32) → (Nat → Int32) → Int32 → Prop} (hw : wn_X6_bestWith yn yu yf za a1 Q) (sz : Nat) :
    Met l yX6_bestWith wsX6_bestWith ({ frames := 3, cells := 0, slots := 0, locals := 71 } : Room) (va_Pc [.ref qy, .int a1] (mPre G (w0_X6_bestWith G qy qyn qyt qyu qyf qyr qyb qyk qyi qyx yn yt yu yf yr yb yk yi yx za zs zl zt zg zr zm) sz)) (va_Qi (fun (r : Int32) (u : (Nat → Int32) × (Nat → Int32) × Int32) => Q r u.1 u.2.1 u.2.2) (mBk G (va_A (w0_X6_bestWith G qy qyn qyt qyu qyf qyr qyb qyk qyi qyx yn yt yu yf yr yb yk yi yx za zs zl zt zg zr zm) sz) (fun (u : (Nat → Int32) × (Nat → Int32) × Int32) => (w0_X6_bestWith G qy qyn qyt qyu qyf qyr qyb qyk qyi qyx yn yt u.1 u.2.1 yr yb yk yi yx u.2.2 zs zl zt zg zr zm))) (va_A (w0_X6_bestWith G qy qyn qyt qyu qyf qyr qyb qyk qyi qyx yn yt yu yf yr yb yk yi yx za zs zl zt zg zr zm) sz)) 0 0 (va_A (w0_X6_bestWith G qy qyn qyt qyu qyf qyr qyb qyk qyi qyx yn yt yu yf yr yb yk yi yx za zs zl zt zg zr zm) sz) := by
  refine ms_i (cc := cX6_bestWith) (maxL := 2) (ret := some .int) (post := (fun (r : Int32) (u : (Nat → Int32) × (Nat → Int32) × Int32) => Q r u.1 u.2.1 u.2.2)) (w1 := (fun (u : (Nat → Int32) × (Nat → Int32) × Int32) => (w0_X6_bestWith G qy qyn qyt qyu qyf qyr qyb qyk qyi qyx yn yt u.1 u.2.1 yr yb yk yi yx u.2.2 zs zl zt zg zr zm))) (by decide) rfl (Nat.le_of_ble_eq_true rfl) ?_ sz
  intro p e s m below meth c A ls H locs hx hb hr hml hown hts hlocks hK hG hP hD hS hA hl
  have hown : s.vm.findClass RX6 = some m.cls := hown
  have hl : lv_has ls 2 [(0, .ref qy), (1, .int a1)] := hl
  unfold wn_X6_bestWith at hw
  refine lv_aload_n hx hb dX6_bestWith_0 rfl (lv_at hl 0 rfl) ?_
  refine lv_iload_n hx hb dX6_bestWith_1 rfl (lv_at hl 1 rfl) ?_
  refine kc_i (kr_V [] ⟨hx, hb, hml, hown, hts⟩ (cn_X6_noOne l G qy qyn qyt qyu qyf qyr qyb qyk qyi qyx yn yt yu yf yr yb yk yi yx za zs zl zt zg zr zm a1 hw H.size) (cwV 1 hts gX6_bestWith_X6_noOne rfl rfl rfl (by decide +kernel) ⟨Nat.le_of_ble_eq_true rfl, Nat.le_of_ble_eq_true rfl⟩) hK hG hP hD hS hA [0, 1, 2, 3, 4, 5, 6, 7, 8, 9] rfl rfl 6 0 rfl rfl rfl hl.1 rfl (Nat.le_of_ble_eq_true rfl) dX6_bestWith_2 ⟨Nat.le_of_ble_eq_true rfl, Nat.le_of_ble_eq_true rfl⟩) hP hD hS hA [0, 1, 2, 3, 4, 5, 6, 7, 8, 9] [] rfl rfl rfl (by decide) (fun r1 u H locs hw hP hD hS => ?_)
  obtain ⟨za_2, rfl⟩ : ∃ z, z = u := ⟨_, rfl⟩
  try dsimp only at hw
  have hP := hP.sub (ws' := (w0_X6_bestWith G qy qyn qyt qyu qyf qyr qyb qyk qyi qyx yn yt yu yf yr yb yk yi yx za_2 zs zl zt zg zr zm)) [0, 1, 2, 3, 4, 5, 6, 7, 8, 9] rfl
  have hD := hD.sub (ws' := (w0_X6_bestWith G qy qyn qyt qyu qyf qyr qyb qyk qyi qyx yn yt yu yf yr yb yk yi yx za_2 zs zl zt zg zr zm)) [0, 1, 2, 3, 4, 5, 6, 7, 8, 9] rfl rfl
  obtain ⟨hz_r1, hw⟩ := hw
  refine lv_if_eq (tgt := 12) hx hb dX6_bestWith_5 (by decide) (fun cd3 => ?_) (fun cd3 => ?_)
  · have hw := hw.1 cd3
    refine lv_aload_n hx hb dX6_bestWith_12 rfl (lv_at hl 0 rfl) ?_
    refine va_get (D := gD G) (ci := 6) (v := .ref qyu) (C := RX6) (T := TX6) (N := 16) hx hb hts k_X6_bestWith_inX6 hown hK hP 0 rfl rfl 3 (by decide) (hts _ k_X6_bestWith_f16) (fun _ h9 => h9) rfl dX6_bestWith_13 ?_
    refine lv_aload_n hx hb dX6_bestWith_16 rfl (lv_at hl 0 rfl) ?_
    refine lv_aload_n hx hb dX6_bestWith_17 rfl (lv_at hl 0 rfl) ?_
    refine kc_i (kr_V [.ref qy, .ref qyu] ⟨hx, hb, hml, hown, hts⟩ (cn_X6_fill l G qy qyn qyt qyu qyf qyr qyb qyk qyi qyx yn yt yu yf yr yb yk yi yx za_2 zs zl zt zg zr zm hw H.size) (cwV 0 hts gX6_bestWith_X6_fill rfl rfl rfl (by decide +kernel) ⟨Nat.le_of_ble_eq_true rfl, Nat.le_of_ble_eq_true rfl⟩) hK hG hP hD hS hA [0, 1, 2, 3, 4, 5, 6, 7, 8, 9] rfl rfl 6 0 rfl rfl rfl hl.1 rfl (Nat.le_of_ble_eq_true rfl) dX6_bestWith_18 ⟨Nat.le_of_ble_eq_true rfl, Nat.le_of_ble_eq_true rfl⟩) hP hD hS hA [0, 1, 2, 3, 4, 5, 6, 7, 8, 9] [] rfl rfl rfl (by decide) (fun r4 u H locs hw hP hD hS => ?_)
    obtain ⟨yu_5, yf_6⟩ := u
    try dsimp only at hw
    have hP := hP.sub (ws' := (w0_X6_bestWith G qy qyn qyt qyu qyf qyr qyb qyk qyi qyx yn yt yu_5 yf_6 yr yb yk yi yx za_2 zs zl zt zg zr zm)) [0, 1, 2, 3, 4, 5, 6, 7, 8, 9] rfl
    have hD := hD.sub (ws' := (w0_X6_bestWith G qy qyn qyt qyu qyf qyr qyb qyk qyi qyx yn yt yu_5 yf_6 yr yb yk yi yx za_2 zs zl zt zg zr zm)) [0, 1, 2, 3, 4, 5, 6, 7, 8, 9] rfl rfl
    refine lv_iconst (v := 1) hx hb dX6_bestWith_21 (by decide) ?_
    refine lv_iload_n hx hb dX6_bestWith_22 rfl (lv_at hl 1 rfl) ?_
    refine lv_ishl hx hb dX6_bestWith_23 ?_
    refine kcR_i (kr_V [.ref qyu] ⟨hx, hb, hml, hown, hts⟩ (cn_X6_bestSet l G qy qyn qyt qyu qyf qyr qyb qyk qyi qyx yn yt yu_5 yf_6 yr yb yk yi yx za_2 zs zl zt zg zr zm r4 ((1 : Int32) <<< (a1 &&& 31)) hw H.size) (cwV 2 hts gX6_bestWith_X6_bestSet rfl rfl rfl (by decide +kernel) ⟨Nat.le_of_ble_eq_true rfl, Nat.le_of_ble_eq_true rfl⟩) hK hG hP hD hS hA [0, 1, 2, 3, 4, 5, 6, 7, 8, 9] rfl rfl 6 0 rfl rfl rfl hl.1 rfl (Nat.le_of_ble_eq_true rfl) dX6_bestWith_24 ⟨Nat.le_of_ble_eq_true rfl, Nat.le_of_ble_eq_true rfl⟩) hP hD hS hA [0, 1, 2, 3, 4, 5, 6, 7, 8, 9] rfl (fun r7 u H locs hw hP hS => ?_)
    try dsimp only at hw
    obtain ⟨h8, hw⟩ := hw
    refine va_iald hx hb hK hP 3 0 rfl rfl h8 dX6_bestWith_27 ?_
    exact fin_i (yu_5, yf_6, za_2) hx hb hr hlocks hK hS hP hD hw dX6_bestWith_28
  · have hw := hw.2 cd3
    refine lv_iconst (v := 0) hx hb dX6_bestWith_8 (by decide) ?_
    refine lv_goto (tgt := 28) hx hb dX6_bestWith_9 (by decide) ?_
    exact fin_i (yu, yf, za_2) hx hb hr hlocks hK hS hP hD hw dX6_bestWith_28

abbrev w0_X6_share (G : mG) (qy : Nat) (qyn : Nat) (qyt : Nat) (qyu : Nat) (qyf : Nat) (qyr : Nat) (qyb : Nat) (qyk : Nat) (qyi : Nat) (qyx : Nat) (yn : Nat → Int32) (yt : Nat → Int32) (yu : Nat → Int32) (yf : Nat → Int32) (yr : Nat → Int32) (yb : Nat → Int32) (yk : Nat → Int32) (yi : Nat → Int32) (yx : Nat → Int32) (za : Int32) (zs : Int32) (zl : Int32) (zt : Int32) (zg : Int32) (zr : Int32) (zm : Int32) : va_W := [(qy, .inr (6, [.int za, .ref qyn, .ref qyt, .ref qyu, .ref qyf, .ref qyr, .ref qyb, .int zs, .ref qyk, .ref qyi, .ref qyx, .int zl, .int zt, .int zg, .int zr, .int zm])), (qyn, .inl (gI G, (45, .inl yn))), (qyt, .inl (gI G, (45, .inl yt))), (qyu, .inl (gI G, (16384, .inl yu))), (qyf, .inl (gI G, (14, .inl yf))), (qyr, .inl (gI G, (14, .inl yr))), (qyb, .inl (gI G, (270, .inl yb))), (qyk, .inl (gI G, (90, .inl yk))), (qyi, .inl (gZ G, (2, .inl yi))), (qyx, .inl (gI G, (60, .inl yx)))]
set_option maxRecDepth 100000 in
theorem k_X6_share_inX6 : ∀ w ∈ u_ws RX6 TX6 16, w ∈ wsX6_share := by decide +kernel
set_option maxRecDepth 100000 in
theorem k_X6_share_f7 : Cond.fieldLink RX6 7 "RehearsalRoomModel" "now" "[I" ∈ wsX6_share := by decide +kernel
set_option maxRecDepth 100000 in
theorem k_X6_share_c172 : Cond.constantDouble RX6 172 (4636455816377925632) ∈ wsX6_share := by decide +kernel
set_option maxHeartbeats 8000000 in
set_option maxRecDepth 100000 in
theorem cn_X6_share (l : Launch) (G : mG) (qy : Nat) (qyn : Nat) (qyt : Nat) (qyu : Nat) (qyf : Nat) (qyr : Nat) (qyb : Nat) (qyk : Nat) (qyi : Nat) (qyx : Nat) (yn : Nat → Int32) (yt : Nat → Int32) (yu : Nat → Int32) (yf : Nat → Int32) (yr : Nat → Int32) (yb : Nat → Int32) (yk : Nat → Int32) (yi : Nat → Int32) (yx : Nat → Int32) (za : Int32) (zs : Int32) (zl : Int32) (zt : Int32) (zg : Int32) (zr : Int32) (zm : Int32) {Q : UInt64 → Prop} (hw : wn_X6_share yn Q) (sz : Nat) :
    Met l yX6_share wsX6_share ({ frames := 1, cells := 0, slots := 0, locals := 21 } : Room) (va_Pc [.ref qy] (mPre G (w0_X6_share G qy qyn qyt qyu qyf qyr qyb qyk qyi qyx yn yt yu yf yr yb yk yi yx za zs zl zt zg zr zm) sz)) (va_Qd (fun (r : UInt64) (u : Unit) => Q r) (mBk G (va_A (w0_X6_share G qy qyn qyt qyu qyf qyr qyb qyk qyi qyx yn yt yu yf yr yb yk yi yx za zs zl zt zg zr zm) sz) (fun (u : Unit) => (w0_X6_share G qy qyn qyt qyu qyf qyr qyb qyk qyi qyx yn yt yu yf yr yb yk yi yx za zs zl zt zg zr zm))) (va_A (w0_X6_share G qy qyn qyt qyu qyf qyr qyb qyk qyi qyx yn yt yu yf yr yb yk yi yx za zs zl zt zg zr zm) sz)) 0 0 (va_A (w0_X6_share G qy qyn qyt qyu qyf qyr qyb qyk qyi qyx yn yt yu yf yr yb yk yi yx za zs zl zt zg zr zm) sz) := by
  refine ms_d (cc := cX6_share) (maxL := 3) (ret := some .double) (post := (fun (r : UInt64) (u : Unit) => Q r)) (w1 := (fun (u : Unit) => (w0_X6_share G qy qyn qyt qyu qyf qyr qyb qyk qyi qyx yn yt yu yf yr yb yk yi yx za zs zl zt zg zr zm))) (by decide) rfl (Nat.le_of_ble_eq_true rfl) ?_ sz
  intro p e s m below meth c A ls H locs hx hb hr hml hown hts hlocks hK hG hP hD hS hA hl
  have hown : s.vm.findClass RX6 = some m.cls := hown
  have hl : lv_has ls 3 [(0, .ref qy)] := hl
  have J4 : ∀ (n : Nat) (x1 : Int32) (x2 : Int32) (H : Heap) (locs : List Loc) (ls : Array Slot), va_P (gD G) vwCl (w0_X6_share G qy qyn qyt qyu qyf qyr qyb qyk qyi qyx yn yt yu yf yr yb yk yi yx za zs zl zt zg zr zm) H → va_D A (w0_X6_share G qy qyn qyt qyu qyf qyr qyb qyk qyi qyx yn yt yu yf yr yb yk yi yx za zs zl zt zg zr zm) → va_S A s.heap H locs → lv_has ls 3 [(0, .ref qy), (1, .int x1), (2, .int x2)] → wl_n_X6_share_4 yn Q n x1 x2 → W p l e ({ frames := 1, cells := 0, slots := 0, locals := 21 } : Room) s m ([.ref qy] : List Value).toArray below meth c H locs 0 0 (MQ below (va_Qd (fun (r : UInt64) (u : Unit) => Q r) (mBk G A (fun (u : Unit) => (w0_X6_share G qy qyn qyt qyu qyf qyr qyb qyk qyi qyx yn yt yu yf yr yb yk yi yx za zs zl zt zg zr zm))) A) ([.ref qy] : List Value).toArray s 0 0 A) (F0 m 4 ls []) := by
    intro n
    induction n with
    | zero => intro x1 x2 H locs ls hP hD hS hl hw; exact False.elim hw
    | succ n ih =>
      intro x1 x2 H locs ls hP hD hS hl hw
      rw [wl_n_X6_share_4] at hw
      refine lv_iload_n hx hb dX6_share_4 rfl (lv_at hl 2 rfl) ?_
      refine lv_aload_n hx hb dX6_share_5 rfl (lv_at hl 0 rfl) ?_
      refine va_get (D := gD G) (ci := 6) (v := .ref qyn) (C := RX6) (T := TX6) (N := 16) hx hb hts k_X6_share_inX6 hown hK hP 0 rfl rfl 1 (by decide) (hts _ k_X6_share_f7) (fun _ h9 => h9) rfl dX6_share_6 ?_
      refine lv_bipush (v := 44) hx hb dX6_share_9 (by decide) ?_
      obtain ⟨h1, hw⟩ := hw
      refine va_iald hx hb hK hP 1 0 rfl rfl h1 dX6_share_11 ?_
      refine lv_icmp_ge (tgt := 52) hx hb dX6_share_12 (by decide) (fun cd2 => ?_) (fun cd2 => ?_)
      · have hw := hw.1 cd2
        refine lv_iload_n hx hb dX6_share_52 rfl (lv_at hl 1 rfl) ?_
        refine lv_i2d hx hb dX6_share_53 ?_
        refine lv_ldc2d (v := 4636455816377925632) hx hb hown (hts _ k_X6_share_c172) dX6_share_54 ?_
        obtain ⟨h3, hw⟩ := hw
        refine lv_ddiv hx hb dX6_share_57 h3 ?_
        exact fin_d () hx hb hr hlocks hK hS hP hD hw dX6_share_58
      · have hw := hw.2 cd2
        refine lv_iload_n hx hb dX6_share_15 rfl (lv_at hl 1 rfl) ?_
        refine lv_aload_n hx hb dX6_share_16 rfl (lv_at hl 0 rfl) ?_
        refine lv_iload_n hx hb dX6_share_17 rfl (lv_at hl 2 rfl) ?_
        refine kcR_i (kr_V [.int x1] ⟨hx, hb, hml, hown, hts⟩ (cn_X6_isIn l G qy qyn qyt qyu qyf qyr qyb qyk qyi qyx yn yt yu yf yr yb yk yi yx za zs zl zt zg zr zm x2 hw H.size) (cwV 1 hts gX6_share_X6_isIn rfl rfl rfl (by decide +kernel) ⟨Nat.le_of_ble_eq_true rfl, Nat.le_of_ble_eq_true rfl⟩) hK hG hP hD hS hA [0, 1, 2, 3, 4, 5, 6, 7, 8, 9] rfl rfl 6 0 rfl rfl rfl hl.1 rfl (Nat.le_of_ble_eq_true rfl) dX6_share_18 ⟨Nat.le_of_ble_eq_true rfl, Nat.le_of_ble_eq_true rfl⟩) hP hD hS hA [0, 1, 2, 3, 4, 5, 6, 7, 8, 9] rfl (fun r4 u H locs hw hP hS => ?_)
        try dsimp only at hw
        obtain ⟨hz_r4, hw⟩ := hw
        refine lv_if_eq (tgt := 43) hx hb dX6_share_21 (by decide) (fun cd5 => ?_) (fun cd5 => ?_)
        · have hw := hw.1 cd5
          refine lv_iconst (v := 0) hx hb dX6_share_43 (by decide) ?_
          refine lv_iadd hx hb dX6_share_44 ?_
          refine lv_istore_n (lv' := [(1, .int (x1 + (0 : Int32))), (0, .ref qy), (2, .int x2)]) hx hb dX6_share_45 rfl hl (by decide) rfl (fun ls hl => ?_)
          refine lv_iinc (v := (x2 + 1)) (lv' := [(2, .int (x2 + 1)), (1, .int (x1 + (0 : Int32))), (0, .ref qy)]) hx hb dX6_share_46 hl (k := 2) rfl rfl (by decide) rfl (fun ls hl => ?_)
          refine lv_goto (tgt := 4) hx hb dX6_share_49 (by decide) ?_
          exact ih (x1 + (0 : Int32)) (x2 + 1) _ _ _ hP hD hS (lv_sub hl [2, 1, 0] rfl) hw
        · have hw := hw.2 cd5
          refine lv_aload_n hx hb dX6_share_24 rfl (lv_at hl 0 rfl) ?_
          refine va_get (D := gD G) (ci := 6) (v := .ref qyn) (C := RX6) (T := TX6) (N := 16) hx hb hts k_X6_share_inX6 hown hK hP 0 rfl rfl 1 (by decide) (hts _ k_X6_share_f7) (fun _ h9 => h9) rfl dX6_share_25 ?_
          refine lv_bipush (v := 14) hx hb dX6_share_28 (by decide) ?_
          refine lv_iload_n hx hb dX6_share_30 rfl (lv_at hl 2 rfl) ?_
          refine lv_iadd hx hb dX6_share_31 ?_
          obtain ⟨h6, hw⟩ := hw
          refine va_iald hx hb hK hP 1 0 rfl rfl h6 dX6_share_32 ?_
          refine lv_aload_n hx hb dX6_share_33 rfl (lv_at hl 0 rfl) ?_
          refine va_get (D := gD G) (ci := 6) (v := .ref qyn) (C := RX6) (T := TX6) (N := 16) hx hb hts k_X6_share_inX6 hown hK hP 0 rfl rfl 1 (by decide) (hts _ k_X6_share_f7) (fun _ h9 => h9) rfl dX6_share_34 ?_
          refine lv_iload_n hx hb dX6_share_37 rfl (lv_at hl 2 rfl) ?_
          obtain ⟨h7, hw⟩ := hw
          refine va_iald hx hb hK hP 1 0 rfl rfl h7 dX6_share_38 ?_
          refine lv_isub hx hb dX6_share_39 ?_
          refine lv_goto (tgt := 44) hx hb dX6_share_40 (by decide) ?_
          refine lv_iadd hx hb dX6_share_44 ?_
          refine lv_topi (fun v8 ev8 => ?_)
          have hw := hw v8 ev8
          refine lv_istore_n (lv' := [(1, .int v8), (0, .ref qy), (2, .int x2)]) hx hb dX6_share_45 rfl hl (by decide) rfl (fun ls hl => ?_)
          refine lv_iinc (v := (x2 + 1)) (lv' := [(2, .int (x2 + 1)), (1, .int v8), (0, .ref qy)]) hx hb dX6_share_46 hl (k := 2) rfl rfl (by decide) rfl (fun ls hl => ?_)
          refine lv_goto (tgt := 4) hx hb dX6_share_49 (by decide) ?_
          exact ih v8 (x2 + 1) _ _ _ hP hD hS (lv_sub hl [2, 1, 0] rfl) hw
  unfold wn_X6_share at hw
  refine lv_iconst (v := 0) hx hb dX6_share_0 (by decide) ?_
  refine lv_istore_n (lv' := [(1, .int (0 : Int32)), (0, .ref qy)]) hx hb dX6_share_1 rfl hl (by decide) rfl (fun ls hl => ?_)
  refine lv_iconst (v := 0) hx hb dX6_share_2 (by decide) ?_
  refine lv_istore_n (lv' := [(2, .int (0 : Int32)), (1, .int (0 : Int32)), (0, .ref qy)]) hx hb dX6_share_3 rfl hl (by decide) rfl (fun ls hl => ?_)
  obtain ⟨n4, hw⟩ := hw
  exact J4 n4 (0 : Int32) (0 : Int32) _ _ _ hP hD hS (lv_sub hl [2, 1, 0] rfl) hw

abbrev w0_X6_bookedShare (G : mG) (qy : Nat) (qyn : Nat) (qyt : Nat) (qyu : Nat) (qyf : Nat) (qyr : Nat) (qyb : Nat) (qyk : Nat) (qyi : Nat) (qyx : Nat) (yn : Nat → Int32) (yt : Nat → Int32) (yu : Nat → Int32) (yf : Nat → Int32) (yr : Nat → Int32) (yb : Nat → Int32) (yk : Nat → Int32) (yi : Nat → Int32) (yx : Nat → Int32) (za : Int32) (zs : Int32) (zl : Int32) (zt : Int32) (zg : Int32) (zr : Int32) (zm : Int32) : va_W := [(qy, .inr (6, [.int za, .ref qyn, .ref qyt, .ref qyu, .ref qyf, .ref qyr, .ref qyb, .int zs, .ref qyk, .ref qyi, .ref qyx, .int zl, .int zt, .int zg, .int zr, .int zm])), (qyn, .inl (gI G, (45, .inl yn))), (qyt, .inl (gI G, (45, .inl yt))), (qyu, .inl (gI G, (16384, .inl yu))), (qyf, .inl (gI G, (14, .inl yf))), (qyr, .inl (gI G, (14, .inl yr))), (qyb, .inl (gI G, (270, .inl yb))), (qyk, .inl (gI G, (90, .inl yk))), (qyi, .inl (gZ G, (2, .inl yi))), (qyx, .inl (gI G, (60, .inl yx)))]
set_option maxRecDepth 100000 in
theorem k_X6_bookedShare_inX6 : ∀ w ∈ u_ws RX6 TX6 16, w ∈ wsX6_bookedShare := by decide +kernel
set_option maxRecDepth 100000 in
theorem k_X6_bookedShare_f38 : Cond.fieldLink RX6 38 "RehearsalRoomModel" "refusal" "I" ∈ wsX6_bookedShare := by decide +kernel
set_option maxHeartbeats 8000000 in
set_option maxRecDepth 100000 in
theorem cn_X6_bookedShare (l : Launch) (G : mG) (qy : Nat) (qyn : Nat) (qyt : Nat) (qyu : Nat) (qyf : Nat) (qyr : Nat) (qyb : Nat) (qyk : Nat) (qyi : Nat) (qyx : Nat) (yn : Nat → Int32) (yt : Nat → Int32) (yu : Nat → Int32) (yf : Nat → Int32) (yr : Nat → Int32) (yb : Nat → Int32) (yk : Nat → Int32) (yi : Nat → Int32) (yx : Nat → Int32) (za : Int32) (zs : Int32) (zl : Int32) (zt : Int32) (zg : Int32) (zr : Int32) (zm : Int32) {Q : UInt64 → Int32 → Prop} (hw : wn_X6_bookedShare yn za Q) (sz : Nat) :
    Met l yX6_bookedShare wsX6_bookedShare ({ frames := 2, cells := 0, slots := 0, locals := 43 } : Room) (va_Pc [.ref qy] (mPre G (w0_X6_bookedShare G qy qyn qyt qyu qyf qyr qyb qyk qyi qyx yn yt yu yf yr yb yk yi yx za zs zl zt zg zr zm) sz)) (va_Qd (fun (r : UInt64) (u : Int32) => Q r u) (mBk G (va_A (w0_X6_bookedShare G qy qyn qyt qyu qyf qyr qyb qyk qyi qyx yn yt yu yf yr yb yk yi yx za zs zl zt zg zr zm) sz) (fun (u : Int32) => (w0_X6_bookedShare G qy qyn qyt qyu qyf qyr qyb qyk qyi qyx yn yt yu yf yr yb yk yi yx u zs zl zt zg zr zm))) (va_A (w0_X6_bookedShare G qy qyn qyt qyu qyf qyr qyb qyk qyi qyx yn yt yu yf yr yb yk yi yx za zs zl zt zg zr zm) sz)) 0 0 (va_A (w0_X6_bookedShare G qy qyn qyt qyu qyf qyr qyb qyk qyi qyx yn yt yu yf yr yb yk yi yx za zs zl zt zg zr zm) sz) := by
  refine ms_d (cc := cX6_bookedShare) (maxL := 1) (ret := some .double) (post := (fun (r : UInt64) (u : Int32) => Q r u)) (w1 := (fun (u : Int32) => (w0_X6_bookedShare G qy qyn qyt qyu qyf qyr qyb qyk qyi qyx yn yt yu yf yr yb yk yi yx u zs zl zt zg zr zm))) (by decide) rfl (Nat.le_of_ble_eq_true rfl) ?_ sz
  intro p e s m below meth c A ls H locs hx hb hr hml hown hts hlocks hK hG hP hD hS hA hl
  have hown : s.vm.findClass RX6 = some m.cls := hown
  have hl : lv_has ls 1 [(0, .ref qy)] := hl
  unfold wn_X6_bookedShare at hw
  refine lv_aload_n hx hb dX6_bookedShare_0 rfl (lv_at hl 0 rfl) ?_
  refine lv_iconst (v := 0) hx hb dX6_bookedShare_1 (by decide) ?_
  refine va_put (D := gD G) (ci := 6) (v := .int (0 : Int32)) (ty := .int) (C := RX6) (T := TX6) (N := 16) hx hb hts k_X6_bookedShare_inX6 tyX6 tyX6_ok nmX6 hown hK hP hD hS 0 rfl rfl 0 (by decide) (hts _ k_X6_bookedShare_f38) (fun _ h9 => h9) rfl (by decide +kernel) rfl rfl (Nat.le_of_ble_eq_true rfl) dX6_bookedShare_2 (fun H locs hP hD hS => ?_)
  have hP : va_P (gD G) vwCl (w0_X6_bookedShare G qy qyn qyt qyu qyf qyr qyb qyk qyi qyx yn yt yu yf yr yb yk yi yx (0 : Int32) zs zl zt zg zr zm) H := hP
  have hD : va_D A (w0_X6_bookedShare G qy qyn qyt qyu qyf qyr qyb qyk qyi qyx yn yt yu yf yr yb yk yi yx (0 : Int32) zs zl zt zg zr zm) := hD
  refine lv_aload_n hx hb dX6_bookedShare_5 rfl (lv_at hl 0 rfl) ?_
  refine kcR_d (kr_V [] ⟨hx, hb, hml, hown, hts⟩ (cn_X6_share l G qy qyn qyt qyu qyf qyr qyb qyk qyi qyx yn yt yu yf yr yb yk yi yx (0 : Int32) zs zl zt zg zr zm hw H.size) (cwV 0 hts gX6_bookedShare_X6_share rfl rfl rfl (by decide +kernel) ⟨Nat.le_of_ble_eq_true rfl, Nat.le_of_ble_eq_true rfl⟩) hK hG hP hD hS hA [0, 1, 2, 3, 4, 5, 6, 7, 8, 9] rfl rfl 6 0 rfl rfl rfl hl.1 rfl (Nat.le_of_ble_eq_true rfl) dX6_bookedShare_6 ⟨Nat.le_of_ble_eq_true rfl, Nat.le_of_ble_eq_true rfl⟩) hP hD hS hA [0, 1, 2, 3, 4, 5, 6, 7, 8, 9] rfl (fun r1 u H locs hw hP hS => ?_)
  try dsimp only at hw
  exact fin_d ((0 : Int32)) hx hb hr hlocks hK hS hP hD hw dX6_bookedShare_9

abbrev w0_X6_mix (G : mG) : va_W := []
set_option maxRecDepth 100000 in
theorem k_X6_mix_c178 : Cond.constantLong RX6 178 (31) ∈ wsX6_mix := by decide +kernel
set_option maxHeartbeats 8000000 in
set_option maxRecDepth 100000 in
theorem cn_X6_mix (l : Launch) (G : mG) (a0 : Int64) (a2 : Int64) {Q : Int64 → Prop} (hw : wn_X6_mix a0 a2 Q) (sz : Nat) :
    Met l yX6_mix wsX6_mix ({ frames := 0, cells := 0, slots := 0, locals := 0 } : Room) (va_Pc [.long a0, .long a2] (mPre G (w0_X6_mix G) sz)) (va_Ql (fun (r : Int64) (u : Unit) => Q r) (mBk G (va_A (w0_X6_mix G) sz) (fun (u : Unit) => (w0_X6_mix G))) (va_A (w0_X6_mix G) sz)) 0 0 (va_A (w0_X6_mix G) sz) := by
  refine ms_l (cc := cX6_mix) (maxL := 4) (ret := some .long) (post := (fun (r : Int64) (u : Unit) => Q r)) (w1 := (fun (u : Unit) => (w0_X6_mix G))) (by decide) rfl (Nat.le_of_ble_eq_true rfl) ?_ sz
  intro p e s m below meth c A ls H locs hx hb hr hml hown hts hlocks hK hG hP hD hS hA hl
  have hown : s.vm.findClass RX6 = some m.cls := hown
  have hl : lv_has ls 4 [(0, .long a0), (2, .long a2)] := hl
  unfold wn_X6_mix at hw
  refine lv_ldc2 (v := 31) hx hb hown (hts _ k_X6_mix_c178) dX6_mix_0 ?_
  refine lv_lload_n hx hb dX6_mix_3 rfl (lv_at hl 0 rfl) ?_
  refine lv_lmul hx hb dX6_mix_4 ?_
  refine lv_lload_n hx hb dX6_mix_5 rfl (lv_at hl 1 rfl) ?_
  refine lv_ladd hx hb dX6_mix_6 ?_
  exact fin_l () hx hb hr hlocks hK hS hP hD hw dX6_mix_7

abbrev w0_X6_oneHash (G : mG) (qy : Nat) (qyn : Nat) (qyt : Nat) (qyu : Nat) (qyf : Nat) (qyr : Nat) (qyb : Nat) (qyk : Nat) (qyi : Nat) (qyx : Nat) (yn : Nat → Int32) (yt : Nat → Int32) (yu : Nat → Int32) (yf : Nat → Int32) (yr : Nat → Int32) (yb : Nat → Int32) (yk : Nat → Int32) (yi : Nat → Int32) (yx : Nat → Int32) (za : Int32) (zs : Int32) (zl : Int32) (zt : Int32) (zg : Int32) (zr : Int32) (zm : Int32) : va_W := [(qy, .inr (6, [.int za, .ref qyn, .ref qyt, .ref qyu, .ref qyf, .ref qyr, .ref qyb, .int zs, .ref qyk, .ref qyi, .ref qyx, .int zl, .int zt, .int zg, .int zr, .int zm])), (qyn, .inl (gI G, (45, .inl yn))), (qyt, .inl (gI G, (45, .inl yt))), (qyu, .inl (gI G, (16384, .inl yu))), (qyf, .inl (gI G, (14, .inl yf))), (qyr, .inl (gI G, (14, .inl yr))), (qyb, .inl (gI G, (270, .inl yb))), (qyk, .inl (gI G, (90, .inl yk))), (qyi, .inl (gZ G, (2, .inl yi))), (qyx, .inl (gI G, (60, .inl yx)))]
set_option maxRecDepth 100000 in
theorem k_X6_oneHash_inX6 : ∀ w ∈ u_ws RX6 TX6 16, w ∈ wsX6_oneHash := by decide +kernel
set_option maxRecDepth 100000 in
theorem k_X6_oneHash_f7 : Cond.fieldLink RX6 7 "RehearsalRoomModel" "now" "[I" ∈ wsX6_oneHash := by decide +kernel
set_option maxRecDepth 100000 in
theorem k_X6_oneHash_f22 : Cond.fieldLink RX6 22 "RehearsalRoomModel" "rooms" "[I" ∈ wsX6_oneHash := by decide +kernel
set_option maxRecDepth 100000 in
theorem k_X6_oneHash_f16 : Cond.fieldLink RX6 16 "RehearsalRoomModel" "sums" "[I" ∈ wsX6_oneHash := by decide +kernel
set_option maxHeartbeats 8000000 in
set_option maxRecDepth 100000 in
theorem cn_X6_oneHash (l : Launch) (G : mG) (qy : Nat) (qyn : Nat) (qyt : Nat) (qyu : Nat) (qyf : Nat) (qyr : Nat) (qyb : Nat) (qyk : Nat) (qyi : Nat) (qyx : Nat) (yn : Nat → Int32) (yt : Nat → Int32) (yu : Nat → Int32) (yf : Nat → Int32) (yr : Nat → Int32) (yb : Nat → Int32) (yk : Nat → Int32) (yi : Nat → Int32) (yx : Nat → Int32) (za : Int32) (zs : Int32) (zl : Int32) (zt : Int32) (zg : Int32) (zr : Int32) (zm : Int32) (a1 : Int64) (a3 : Int32) (a4 : Int32) {Q : Int64 → Prop} (hw : wn_X6_oneHash yn yu yr a1 a3 a4 Q) (sz : Nat) :
    Met l yX6_oneHash wsX6_oneHash ({ frames := 2, cells := 0, slots := 0, locals := 50 } : Room) (va_Pc [.ref qy, .long a1, .int a3, .int a4] (mPre G (w0_X6_oneHash G qy qyn qyt qyu qyf qyr qyb qyk qyi qyx yn yt yu yf yr yb yk yi yx za zs zl zt zg zr zm) sz)) (va_Ql (fun (r : Int64) (u : Unit) => Q r) (mBk G (va_A (w0_X6_oneHash G qy qyn qyt qyu qyf qyr qyb qyk qyi qyx yn yt yu yf yr yb yk yi yx za zs zl zt zg zr zm) sz) (fun (u : Unit) => (w0_X6_oneHash G qy qyn qyt qyu qyf qyr qyb qyk qyi qyx yn yt yu yf yr yb yk yi yx za zs zl zt zg zr zm))) (va_A (w0_X6_oneHash G qy qyn qyt qyu qyf qyr qyb qyk qyi qyx yn yt yu yf yr yb yk yi yx za zs zl zt zg zr zm) sz)) 0 0 (va_A (w0_X6_oneHash G qy qyn qyt qyu qyf qyr qyb qyk qyi qyx yn yt yu yf yr yb yk yi yx za zs zl zt zg zr zm) sz) := by
  refine ms_l (cc := cX6_oneHash) (maxL := 7) (ret := some .long) (post := (fun (r : Int64) (u : Unit) => Q r)) (w1 := (fun (u : Unit) => (w0_X6_oneHash G qy qyn qyt qyu qyf qyr qyb qyk qyi qyx yn yt yu yf yr yb yk yi yx za zs zl zt zg zr zm))) (by decide) rfl (Nat.le_of_ble_eq_true rfl) ?_ sz
  intro p e s m below meth c A ls H locs hx hb hr hml hown hts hlocks hK hG hP hD hS hA hl
  have hown : s.vm.findClass RX6 = some m.cls := hown
  have hl : lv_has ls 7 [(0, .ref qy), (1, .long a1), (3, .int a3), (4, .int a4)] := hl
  have J66 : ∀ (x1 : Int64) (x3 : Int32) (x4 : Int32) (x5 : Int64) (y0 : Int64) (y1 : Int64) (H : Heap) (locs : List Loc) (ls : Array Slot), va_P (gD G) vwCl (w0_X6_oneHash G qy qyn qyt qyu qyf qyr qyb qyk qyi qyx yn yt yu yf yr yb yk yi yx za zs zl zt zg zr zm) H → va_D A (w0_X6_oneHash G qy qyn qyt qyu qyf qyr qyb qyk qyi qyx yn yt yu yf yr yb yk yi yx za zs zl zt zg zr zm) → va_S A s.heap H locs → lv_has ls 7 [(0, .ref qy), (1, .long x1), (3, .int x3), (4, .int x4), (5, .long x5)] → wj_n_X6_oneHash_66 yn yu yr Q x1 x3 x4 x5 y0 y1 → W p l e ({ frames := 2, cells := 0, slots := 0, locals := 50 } : Room) s m ([.ref qy, .long a1, .int a3, .int a4] : List Value).toArray below meth c H locs 0 0 (MQ below (va_Ql (fun (r : Int64) (u : Unit) => Q r) (mBk G A (fun (u : Unit) => (w0_X6_oneHash G qy qyn qyt qyu qyf qyr qyb qyk qyi qyx yn yt yu yf yr yb yk yi yx za zs zl zt zg zr zm))) A) ([.ref qy, .long a1, .int a3, .int a4] : List Value).toArray s 0 0 A) (F0 m 66 ls [.long y1, .long y0]) := by
    intro x1 x3 x4 x5 y0 y1 H locs ls hP hD hS hl hw
    unfold wj_n_X6_oneHash_66 at hw
    refine kcR_l (kr_S [] ⟨hx, hb, hml, hown, hts⟩ (cn_X6_mix l G y0 y1 hw H.size) (va_cwS 2 hts gX6_oneHash_X6_mix rfl rfl rfl (by decide +kernel) ⟨Nat.le_of_ble_eq_true rfl, Nat.le_of_ble_eq_true rfl⟩) hK hG hP hD hS hA [] rfl rfl rfl hl.1 rfl (Nat.le_of_ble_eq_true rfl) dX6_oneHash_66 ⟨Nat.le_of_ble_eq_true rfl, Nat.le_of_ble_eq_true rfl⟩) hP hD hS hA [] rfl (fun r12 u H locs hw hP hS => ?_)
    try dsimp only at hw
    refine lv_lstore (lv' := [(5, .long r12), (0, .ref qy), (1, .long x1), (3, .int x3), (4, .int x4)]) hx hb dX6_oneHash_69 hl (by decide) rfl (fun ls hl => ?_)
    refine lv_lload hx hb dX6_oneHash_71 (lv_at hl 0 rfl) ?_
    refine lv_aload_n hx hb dX6_oneHash_73 rfl (lv_at hl 1 rfl) ?_
    refine va_get (D := gD G) (ci := 6) (v := .ref qyn) (C := RX6) (T := TX6) (N := 16) hx hb hts k_X6_oneHash_inX6 hown hK hP 0 rfl rfl 1 (by decide) (hts _ k_X6_oneHash_f7) (fun _ h9 => h9) rfl dX6_oneHash_74 ?_
    refine lv_iload_n hx hb dX6_oneHash_77 rfl (lv_at hl 3 rfl) ?_
    refine kcR_i (kr_S [.long r12] ⟨hx, hb, hml, hown, hts⟩ (cn_X6_foesOf l G qyn yn x3 hw H.size) (va_cwS 2 hts gX6_oneHash_X6_foesOf rfl rfl rfl (by decide +kernel) ⟨Nat.le_of_ble_eq_true rfl, Nat.le_of_ble_eq_true rfl⟩) hK hG hP hD hS hA [1] rfl rfl rfl hl.1 rfl (Nat.le_of_ble_eq_true rfl) dX6_oneHash_78 ⟨Nat.le_of_ble_eq_true rfl, Nat.le_of_ble_eq_true rfl⟩) hP hD hS hA [1] rfl (fun r13 u H locs hw hP hS => ?_)
    try dsimp only at hw
    refine kcR_i (kr_S [.long r12] ⟨hx, hb, hml, hown, hts⟩ (cn_X6_bits l G r13 hw H.size) (va_cwS 1 hts gX6_oneHash_X6_bits rfl rfl rfl (by decide +kernel) ⟨Nat.le_of_ble_eq_true rfl, Nat.le_of_ble_eq_true rfl⟩) hK hG hP hD hS hA [] rfl rfl rfl hl.1 rfl (Nat.le_of_ble_eq_true rfl) dX6_oneHash_81 ⟨Nat.le_of_ble_eq_true rfl, Nat.le_of_ble_eq_true rfl⟩) hP hD hS hA [] rfl (fun r14 u H locs hw hP hS => ?_)
    try dsimp only at hw
    refine lv_i2l hx hb dX6_oneHash_84 rfl ?_
    refine kcR_l (kr_S [] ⟨hx, hb, hml, hown, hts⟩ (cn_X6_mix l G r12 r14.toInt64 hw H.size) (va_cwS 2 hts gX6_oneHash_X6_mix rfl rfl rfl (by decide +kernel) ⟨Nat.le_of_ble_eq_true rfl, Nat.le_of_ble_eq_true rfl⟩) hK hG hP hD hS hA [] rfl rfl rfl hl.1 rfl (Nat.le_of_ble_eq_true rfl) dX6_oneHash_85 ⟨Nat.le_of_ble_eq_true rfl, Nat.le_of_ble_eq_true rfl⟩) hP hD hS hA [] rfl (fun r15 u H locs hw hP hS => ?_)
    try dsimp only at hw
    refine lv_aload_n hx hb dX6_oneHash_88 rfl (lv_at hl 1 rfl) ?_
    refine va_get (D := gD G) (ci := 6) (v := .ref qyr) (C := RX6) (T := TX6) (N := 16) hx hb hts k_X6_oneHash_inX6 hown hK hP 0 rfl rfl 5 (by decide) (hts _ k_X6_oneHash_f22) (fun _ h9 => h9) rfl dX6_oneHash_89 ?_
    refine lv_iload_n hx hb dX6_oneHash_92 rfl (lv_at hl 3 rfl) ?_
    obtain ⟨h16, hw⟩ := hw
    refine va_iald hx hb hK hP 5 0 rfl rfl h16 dX6_oneHash_93 ?_
    refine lv_i2l hx hb dX6_oneHash_94 rfl ?_
    refine kcR_l (kr_S [] ⟨hx, hb, hml, hown, hts⟩ (cn_X6_mix l G r15 ((yr x3.toNatClampNeg).toInt64) hw H.size) (va_cwS 2 hts gX6_oneHash_X6_mix rfl rfl rfl (by decide +kernel) ⟨Nat.le_of_ble_eq_true rfl, Nat.le_of_ble_eq_true rfl⟩) hK hG hP hD hS hA [] rfl rfl rfl hl.1 rfl (Nat.le_of_ble_eq_true rfl) dX6_oneHash_95 ⟨Nat.le_of_ble_eq_true rfl, Nat.le_of_ble_eq_true rfl⟩) hP hD hS hA [] rfl (fun r17 u H locs hw hP hS => ?_)
    try dsimp only at hw
    refine lv_lstore (lv' := [(5, .long r17), (0, .ref qy), (1, .long x1), (3, .int x3), (4, .int x4)]) hx hb dX6_oneHash_98 hl (by decide) rfl (fun ls hl => ?_)
    refine lv_lload hx hb dX6_oneHash_100 (lv_at hl 0 rfl) ?_
    refine lv_aload_n hx hb dX6_oneHash_102 rfl (lv_at hl 1 rfl) ?_
    refine va_get (D := gD G) (ci := 6) (v := .ref qyu) (C := RX6) (T := TX6) (N := 16) hx hb hts k_X6_oneHash_inX6 hown hK hP 0 rfl rfl 3 (by decide) (hts _ k_X6_oneHash_f16) (fun _ h9 => h9) rfl dX6_oneHash_103 ?_
    refine lv_aload_n hx hb dX6_oneHash_106 rfl (lv_at hl 1 rfl) ?_
    refine lv_iload hx hb dX6_oneHash_107 (lv_at hl 4 rfl) ?_
    refine lv_iconst (v := 1) hx hb dX6_oneHash_109 (by decide) ?_
    refine lv_iload_n hx hb dX6_oneHash_110 rfl (lv_at hl 3 rfl) ?_
    refine lv_ishl hx hb dX6_oneHash_111 ?_
    refine kcR_i (kr_V [.ref qyu, .long r17] ⟨hx, hb, hml, hown, hts⟩ (cn_X6_bestSet l G qy qyn qyt qyu qyf qyr qyb qyk qyi qyx yn yt yu yf yr yb yk yi yx za zs zl zt zg zr zm x4 ((1 : Int32) <<< (x3 &&& 31)) hw H.size) (cwV 2 hts gX6_oneHash_X6_bestSet rfl rfl rfl (by decide +kernel) ⟨Nat.le_of_ble_eq_true rfl, Nat.le_of_ble_eq_true rfl⟩) hK hG hP hD hS hA [0, 1, 2, 3, 4, 5, 6, 7, 8, 9] rfl rfl 6 0 rfl rfl rfl hl.1 rfl (Nat.le_of_ble_eq_true rfl) dX6_oneHash_112 ⟨Nat.le_of_ble_eq_true rfl, Nat.le_of_ble_eq_true rfl⟩) hP hD hS hA [0, 1, 2, 3, 4, 5, 6, 7, 8, 9] rfl (fun r18 u H locs hw hP hS => ?_)
    try dsimp only at hw
    obtain ⟨h19, hw⟩ := hw
    refine va_iald hx hb hK hP 3 0 rfl rfl h19 dX6_oneHash_115 ?_
    refine lv_i2l hx hb dX6_oneHash_116 rfl ?_
    refine kcR_l (kr_S [] ⟨hx, hb, hml, hown, hts⟩ (cn_X6_mix l G r17 ((yu r18.toNatClampNeg).toInt64) hw H.size) (va_cwS 2 hts gX6_oneHash_X6_mix rfl rfl rfl (by decide +kernel) ⟨Nat.le_of_ble_eq_true rfl, Nat.le_of_ble_eq_true rfl⟩) hK hG hP hD hS hA [] rfl rfl rfl hl.1 rfl (Nat.le_of_ble_eq_true rfl) dX6_oneHash_117 ⟨Nat.le_of_ble_eq_true rfl, Nat.le_of_ble_eq_true rfl⟩) hP hD hS hA [] rfl (fun r20 u H locs hw hP hS => ?_)
    try dsimp only at hw
    exact fin_l () hx hb hr hlocks hK hS hP hD hw dX6_oneHash_120
  unfold wn_X6_oneHash at hw
  refine lv_lload_n hx hb dX6_oneHash_0 rfl (lv_at hl 1 rfl) ?_
  refine lv_aload_n hx hb dX6_oneHash_1 rfl (lv_at hl 0 rfl) ?_
  refine va_get (D := gD G) (ci := 6) (v := .ref qyn) (C := RX6) (T := TX6) (N := 16) hx hb hts k_X6_oneHash_inX6 hown hK hP 0 rfl rfl 1 (by decide) (hts _ k_X6_oneHash_f7) (fun _ h9 => h9) rfl dX6_oneHash_2 ?_
  refine lv_iload_n hx hb dX6_oneHash_5 rfl (lv_at hl 2 rfl) ?_
  obtain ⟨h1, hw⟩ := hw
  refine va_iald hx hb hK hP 1 0 rfl rfl h1 dX6_oneHash_6 ?_
  refine lv_i2l hx hb dX6_oneHash_7 rfl ?_
  refine kcR_l (kr_S [] ⟨hx, hb, hml, hown, hts⟩ (cn_X6_mix l G a1 ((yn a3.toNatClampNeg).toInt64) hw H.size) (va_cwS 2 hts gX6_oneHash_X6_mix rfl rfl rfl (by decide +kernel) ⟨Nat.le_of_ble_eq_true rfl, Nat.le_of_ble_eq_true rfl⟩) hK hG hP hD hS hA [] rfl rfl rfl hl.1 rfl (Nat.le_of_ble_eq_true rfl) dX6_oneHash_8 ⟨Nat.le_of_ble_eq_true rfl, Nat.le_of_ble_eq_true rfl⟩) hP hD hS hA [] rfl (fun r2 u H locs hw hP hS => ?_)
  try dsimp only at hw
  refine lv_aload_n hx hb dX6_oneHash_11 rfl (lv_at hl 0 rfl) ?_
  refine va_get (D := gD G) (ci := 6) (v := .ref qyn) (C := RX6) (T := TX6) (N := 16) hx hb hts k_X6_oneHash_inX6 hown hK hP 0 rfl rfl 1 (by decide) (hts _ k_X6_oneHash_f7) (fun _ h9 => h9) rfl dX6_oneHash_12 ?_
  refine lv_bipush (v := 14) hx hb dX6_oneHash_15 (by decide) ?_
  refine lv_iload_n hx hb dX6_oneHash_17 rfl (lv_at hl 2 rfl) ?_
  refine lv_iadd hx hb dX6_oneHash_18 ?_
  obtain ⟨h3, hw⟩ := hw
  refine va_iald hx hb hK hP 1 0 rfl rfl h3 dX6_oneHash_19 ?_
  refine lv_i2l hx hb dX6_oneHash_20 rfl ?_
  refine kcR_l (kr_S [] ⟨hx, hb, hml, hown, hts⟩ (cn_X6_mix l G r2 ((yn ((14 : Int32) + a3).toNatClampNeg).toInt64) hw H.size) (va_cwS 2 hts gX6_oneHash_X6_mix rfl rfl rfl (by decide +kernel) ⟨Nat.le_of_ble_eq_true rfl, Nat.le_of_ble_eq_true rfl⟩) hK hG hP hD hS hA [] rfl rfl rfl hl.1 rfl (Nat.le_of_ble_eq_true rfl) dX6_oneHash_21 ⟨Nat.le_of_ble_eq_true rfl, Nat.le_of_ble_eq_true rfl⟩) hP hD hS hA [] rfl (fun r4 u H locs hw hP hS => ?_)
  try dsimp only at hw
  refine lv_aload_n hx hb dX6_oneHash_24 rfl (lv_at hl 0 rfl) ?_
  refine va_get (D := gD G) (ci := 6) (v := .ref qyn) (C := RX6) (T := TX6) (N := 16) hx hb hts k_X6_oneHash_inX6 hown hK hP 0 rfl rfl 1 (by decide) (hts _ k_X6_oneHash_f7) (fun _ h9 => h9) rfl dX6_oneHash_25 ?_
  refine lv_bipush (v := 28) hx hb dX6_oneHash_28 (by decide) ?_
  refine lv_iload_n hx hb dX6_oneHash_30 rfl (lv_at hl 2 rfl) ?_
  refine lv_iadd hx hb dX6_oneHash_31 ?_
  obtain ⟨h5, hw⟩ := hw
  refine va_iald hx hb hK hP 1 0 rfl rfl h5 dX6_oneHash_32 ?_
  refine lv_i2l hx hb dX6_oneHash_33 rfl ?_
  refine kcR_l (kr_S [] ⟨hx, hb, hml, hown, hts⟩ (cn_X6_mix l G r4 ((yn ((28 : Int32) + a3).toNatClampNeg).toInt64) hw H.size) (va_cwS 2 hts gX6_oneHash_X6_mix rfl rfl rfl (by decide +kernel) ⟨Nat.le_of_ble_eq_true rfl, Nat.le_of_ble_eq_true rfl⟩) hK hG hP hD hS hA [] rfl rfl rfl hl.1 rfl (Nat.le_of_ble_eq_true rfl) dX6_oneHash_34 ⟨Nat.le_of_ble_eq_true rfl, Nat.le_of_ble_eq_true rfl⟩) hP hD hS hA [] rfl (fun r6 u H locs hw hP hS => ?_)
  try dsimp only at hw
  refine lv_lstore (lv' := [(5, .long r6), (0, .ref qy), (1, .long a1), (3, .int a3), (4, .int a4)]) hx hb dX6_oneHash_37 hl (by decide) rfl (fun ls hl => ?_)
  refine lv_lload hx hb dX6_oneHash_39 (lv_at hl 0 rfl) ?_
  refine lv_aload_n hx hb dX6_oneHash_41 rfl (lv_at hl 1 rfl) ?_
  refine lv_iload_n hx hb dX6_oneHash_42 rfl (lv_at hl 3 rfl) ?_
  refine kcR_f (kr_V [.long r6] ⟨hx, hb, hml, hown, hts⟩ (cn_X6_rate l G qy qyn qyt qyu qyf qyr qyb qyk qyi qyx yn yt yu yf yr yb yk yi yx za zs zl zt zg zr zm a3 hw H.size) (cwV 1 hts gX6_oneHash_X6_rate rfl rfl rfl (by decide +kernel) ⟨Nat.le_of_ble_eq_true rfl, Nat.le_of_ble_eq_true rfl⟩) hK hG hP hD hS hA [0, 1, 2, 3, 4, 5, 6, 7, 8, 9] rfl rfl 6 0 rfl rfl rfl hl.1 rfl (Nat.le_of_ble_eq_true rfl) dX6_oneHash_43 ⟨Nat.le_of_ble_eq_true rfl, Nat.le_of_ble_eq_true rfl⟩) hP hD hS hA [0, 1, 2, 3, 4, 5, 6, 7, 8, 9] rfl (fun r7 u H locs hw hP hS => ?_)
  try dsimp only at hw
  refine kcR_i (kr_S [.long r6] ⟨hx, hb, hml, hown, hts⟩ (cn_Jxf58ca_floatToIntBits_5c35a l G r7 hw H.size) (va_cwS 1 hts gX6_oneHash_Jxf58ca_floatToIntBits_5c35a rfl rfl rfl (by decide +kernel) ⟨Nat.le_of_ble_eq_true rfl, Nat.le_of_ble_eq_true rfl⟩) hK hG hP hD hS hA [] rfl rfl rfl hl.1 rfl (Nat.le_of_ble_eq_true rfl) dX6_oneHash_46 ⟨Nat.le_of_ble_eq_true rfl, Nat.le_of_ble_eq_true rfl⟩) hP hD hS hA [] rfl (fun r8 u H locs hw hP hS => ?_)
  try dsimp only at hw
  refine lv_i2l hx hb dX6_oneHash_49 rfl ?_
  refine kcR_l (kr_S [] ⟨hx, hb, hml, hown, hts⟩ (cn_X6_mix l G r6 r8.toInt64 hw H.size) (va_cwS 2 hts gX6_oneHash_X6_mix rfl rfl rfl (by decide +kernel) ⟨Nat.le_of_ble_eq_true rfl, Nat.le_of_ble_eq_true rfl⟩) hK hG hP hD hS hA [] rfl rfl rfl hl.1 rfl (Nat.le_of_ble_eq_true rfl) dX6_oneHash_50 ⟨Nat.le_of_ble_eq_true rfl, Nat.le_of_ble_eq_true rfl⟩) hP hD hS hA [] rfl (fun r9 u H locs hw hP hS => ?_)
  try dsimp only at hw
  refine lv_aload_n hx hb dX6_oneHash_53 rfl (lv_at hl 1 rfl) ?_
  refine lv_iload_n hx hb dX6_oneHash_54 rfl (lv_at hl 3 rfl) ?_
  refine kcR_i (kr_V [.long r9] ⟨hx, hb, hml, hown, hts⟩ (cn_X6_isIn l G qy qyn qyt qyu qyf qyr qyb qyk qyi qyx yn yt yu yf yr yb yk yi yx za zs zl zt zg zr zm a3 hw H.size) (cwV 1 hts gX6_oneHash_X6_isIn rfl rfl rfl (by decide +kernel) ⟨Nat.le_of_ble_eq_true rfl, Nat.le_of_ble_eq_true rfl⟩) hK hG hP hD hS hA [0, 1, 2, 3, 4, 5, 6, 7, 8, 9] rfl rfl 6 0 rfl rfl rfl hl.1 rfl (Nat.le_of_ble_eq_true rfl) dX6_oneHash_55 ⟨Nat.le_of_ble_eq_true rfl, Nat.le_of_ble_eq_true rfl⟩) hP hD hS hA [0, 1, 2, 3, 4, 5, 6, 7, 8, 9] rfl (fun r10 u H locs hw hP hS => ?_)
  try dsimp only at hw
  obtain ⟨hz_r10, hw⟩ := hw
  refine lv_if_eq (tgt := 65) hx hb dX6_oneHash_58 (by decide) (fun cd11 => ?_) (fun cd11 => ?_)
  · have hw := hw.1 cd11
    refine lv_lconst (v := 0) hx hb dX6_oneHash_65 (by decide) ?_
    exact J66 a1 a3 a4 r6 r9 (0 : Int64) _ _ _ hP hD hS (lv_sub hl [1, 2, 3, 4, 0] rfl) hw
  · have hw := hw.2 cd11
    refine lv_lconst (v := 1) hx hb dX6_oneHash_61 (by decide) ?_
    refine lv_goto (tgt := 66) hx hb dX6_oneHash_62 (by decide) ?_
    exact J66 a1 a3 a4 r6 r9 (1 : Int64) _ _ _ hP hD hS (lv_sub hl [1, 2, 3, 4, 0] rfl) hw

abbrev w0_X6_digest (G : mG) (qy : Nat) (qyn : Nat) (qyt : Nat) (qyu : Nat) (qyf : Nat) (qyr : Nat) (qyb : Nat) (qyk : Nat) (qyi : Nat) (qyx : Nat) (yn : Nat → Int32) (yt : Nat → Int32) (yu : Nat → Int32) (yf : Nat → Int32) (yr : Nat → Int32) (yb : Nat → Int32) (yk : Nat → Int32) (yi : Nat → Int32) (yx : Nat → Int32) (za : Int32) (zs : Int32) (zl : Int32) (zt : Int32) (zg : Int32) (zr : Int32) (zm : Int32) : va_W := [(qy, .inr (6, [.int za, .ref qyn, .ref qyt, .ref qyu, .ref qyf, .ref qyr, .ref qyb, .int zs, .ref qyk, .ref qyi, .ref qyx, .int zl, .int zt, .int zg, .int zr, .int zm])), (qyn, .inl (gI G, (45, .inl yn))), (qyt, .inl (gI G, (45, .inl yt))), (qyu, .inl (gI G, (16384, .inl yu))), (qyf, .inl (gI G, (14, .inl yf))), (qyr, .inl (gI G, (14, .inl yr))), (qyb, .inl (gI G, (270, .inl yb))), (qyk, .inl (gI G, (90, .inl yk))), (qyi, .inl (gZ G, (2, .inl yi))), (qyx, .inl (gI G, (60, .inl yx)))]
set_option maxRecDepth 100000 in
theorem k_X6_digest_inX6 : ∀ w ∈ u_ws RX6 TX6 16, w ∈ wsX6_digest := by decide +kernel
set_option maxRecDepth 100000 in
theorem k_X6_digest_f38 : Cond.fieldLink RX6 38 "RehearsalRoomModel" "refusal" "I" ∈ wsX6_digest := by decide +kernel
set_option maxRecDepth 100000 in
theorem k_X6_digest_c190 : Cond.constantLong RX6 190 (4327) ∈ wsX6_digest := by decide +kernel
set_option maxRecDepth 100000 in
theorem k_X6_digest_f7 : Cond.fieldLink RX6 7 "RehearsalRoomModel" "now" "[I" ∈ wsX6_digest := by decide +kernel
set_option maxRecDepth 100000 in
theorem k_X6_digest_f16 : Cond.fieldLink RX6 16 "RehearsalRoomModel" "sums" "[I" ∈ wsX6_digest := by decide +kernel
set_option maxRecDepth 100000 in
theorem k_X6_digest_f70 : Cond.fieldLink RX6 70 "RehearsalRoomModel" "states" "I" ∈ wsX6_digest := by decide +kernel
set_option maxRecDepth 100000 in
theorem k_X6_digest_f31 : Cond.fieldLink RX6 31 "RehearsalRoomModel" "isKept" "[Z" ∈ wsX6_digest := by decide +kernel
set_option maxRecDepth 100000 in
theorem k_X6_digest_f116 : Cond.fieldLink RX6 116 "RehearsalRoomModel" "length" "I" ∈ wsX6_digest := by decide +kernel
set_option maxRecDepth 100000 in
theorem k_X6_digest_f35 : Cond.fieldLink RX6 35 "RehearsalRoomModel" "text" "[I" ∈ wsX6_digest := by decide +kernel
set_option maxHeartbeats 8000000 in
set_option maxRecDepth 100000 in
theorem cn_X6_digest (l : Launch) (G : mG) (qy : Nat) (qyn : Nat) (qyt : Nat) (qyu : Nat) (qyf : Nat) (qyr : Nat) (qyb : Nat) (qyk : Nat) (qyi : Nat) (qyx : Nat) (yn : Nat → Int32) (yt : Nat → Int32) (yu : Nat → Int32) (yf : Nat → Int32) (yr : Nat → Int32) (yb : Nat → Int32) (yk : Nat → Int32) (yi : Nat → Int32) (yx : Nat → Int32) (za : Int32) (zs : Int32) (zl : Int32) (zt : Int32) (zg : Int32) (zr : Int32) (zm : Int32) {Q : Int64 → (Nat → Int32) → (Nat → Int32) → (Nat → Int32) → Int32 → Prop} (hw : wn_X6_digest yn yu yf yr yi yx za zs zl Q) (sz : Nat) :
    Met l yX6_digest wsX6_digest ({ frames := 4, cells := 0, slots := 0, locals := 95 } : Room) (va_Pc [.ref qy] (mPre G (w0_X6_digest G qy qyn qyt qyu qyf qyr qyb qyk qyi qyx yn yt yu yf yr yb yk yi yx za zs zl zt zg zr zm) sz)) (va_Ql (fun (r : Int64) (u : (Nat → Int32) × (Nat → Int32) × (Nat → Int32) × Int32) => Q r u.1 u.2.1 u.2.2.1 u.2.2.2) (mBk G (va_A (w0_X6_digest G qy qyn qyt qyu qyf qyr qyb qyk qyi qyx yn yt yu yf yr yb yk yi yx za zs zl zt zg zr zm) sz) (fun (u : (Nat → Int32) × (Nat → Int32) × (Nat → Int32) × Int32) => (w0_X6_digest G qy qyn qyt qyu qyf qyr qyb qyk qyi qyx yn yt u.1 u.2.1 u.2.2.1 yb yk yi yx u.2.2.2 zs zl zt zg zr zm))) (va_A (w0_X6_digest G qy qyn qyt qyu qyf qyr qyb qyk qyi qyx yn yt yu yf yr yb yk yi yx za zs zl zt zg zr zm) sz)) 0 0 (va_A (w0_X6_digest G qy qyn qyt qyu qyf qyr qyb qyk qyi qyx yn yt yu yf yr yb yk yi yx za zs zl zt zg zr zm) sz) := by
  refine ms_l (cc := cX6_digest) (maxL := 7) (ret := some .long) (post := (fun (r : Int64) (u : (Nat → Int32) × (Nat → Int32) × (Nat → Int32) × Int32) => Q r u.1 u.2.1 u.2.2.1 u.2.2.2)) (w1 := (fun (u : (Nat → Int32) × (Nat → Int32) × (Nat → Int32) × Int32) => (w0_X6_digest G qy qyn qyt qyu qyf qyr qyb qyk qyi qyx yn yt u.1 u.2.1 u.2.2.1 yb yk yi yx u.2.2.2 zs zl zt zg zr zm))) (by decide) rfl (Nat.le_of_ble_eq_true rfl) ?_ sz
  intro p e s m below meth c A ls H locs hx hb hr hml hown hts hlocks hK hG hP hD hS hA hl
  have hown : s.vm.findClass RX6 = some m.cls := hown
  have hl : lv_has ls 7 [(0, .ref qy)] := hl
  have J257 : ∀ (n : Nat) (yu : Nat → Int32) (yf : Nat → Int32) (yr : Nat → Int32) (za : Int32) (x1 : Int32) (x2 : Int32) (x3 : Int32) (x4 : Int64) (x6 : Int32) (H : Heap) (locs : List Loc) (ls : Array Slot), va_P (gD G) vwCl (w0_X6_digest G qy qyn qyt qyu qyf qyr qyb qyk qyi qyx yn yt yu yf yr yb yk yi yx za zs zl zt zg zr zm) H → va_D A (w0_X6_digest G qy qyn qyt qyu qyf qyr qyb qyk qyi qyx yn yt yu yf yr yb yk yi yx za zs zl zt zg zr zm) → va_S A s.heap H locs → lv_has ls 7 [(0, .ref qy), (1, .int x1), (2, .int x2), (3, .int x3), (4, .long x4), (6, .int x6)] → wl_n_X6_digest_257 yn yi yx zs zl Q n yu yf yr za x1 x2 x3 x4 x6 → W p l e ({ frames := 4, cells := 0, slots := 0, locals := 95 } : Room) s m ([.ref qy] : List Value).toArray below meth c H locs 0 0 (MQ below (va_Ql (fun (r : Int64) (u : (Nat → Int32) × (Nat → Int32) × (Nat → Int32) × Int32) => Q r u.1 u.2.1 u.2.2.1 u.2.2.2) (mBk G A (fun (u : (Nat → Int32) × (Nat → Int32) × (Nat → Int32) × Int32) => (w0_X6_digest G qy qyn qyt qyu qyf qyr qyb qyk qyi qyx yn yt u.1 u.2.1 u.2.2.1 yb yk yi yx u.2.2.2 zs zl zt zg zr zm))) A) ([.ref qy] : List Value).toArray s 0 0 A) (F0 m 257 ls []) := by
    intro n
    induction n with
    | zero => intro yu yf yr za x1 x2 x3 x4 x6 H locs ls hP hD hS hl hw; exact False.elim hw
    | succ n ih =>
      intro yu yf yr za x1 x2 x3 x4 x6 H locs ls hP hD hS hl hw
      rw [wl_n_X6_digest_257] at hw
      refine lv_iload hx hb dX6_digest_257 (lv_at hl 5 rfl) ?_
      refine lv_aload_n hx hb dX6_digest_259 rfl (lv_at hl 0 rfl) ?_
      refine va_get (D := gD G) (ci := 6) (v := .int zl) (C := RX6) (T := TX6) (N := 16) hx hb hts k_X6_digest_inX6 hown hK hP 0 rfl rfl 11 (by decide) (hts _ k_X6_digest_f116) (fun _ h9 => h9) rfl dX6_digest_260 ?_
      refine lv_icmp_ge (tgt := 287) hx hb dX6_digest_263 (by decide) (fun cd44 => ?_) (fun cd44 => ?_)
      · have hw := hw.1 cd44
        refine lv_lload hx hb dX6_digest_287 (lv_at hl 4 rfl) ?_
        exact fin_l (yu, yf, yr, za) hx hb hr hlocks hK hS hP hD hw dX6_digest_289
      · have hw := hw.2 cd44
        refine lv_lload hx hb dX6_digest_266 (lv_at hl 4 rfl) ?_
        refine lv_aload_n hx hb dX6_digest_268 rfl (lv_at hl 0 rfl) ?_
        refine va_get (D := gD G) (ci := 6) (v := .ref qyx) (C := RX6) (T := TX6) (N := 16) hx hb hts k_X6_digest_inX6 hown hK hP 0 rfl rfl 10 (by decide) (hts _ k_X6_digest_f35) (fun _ h9 => h9) rfl dX6_digest_269 ?_
        refine lv_iload hx hb dX6_digest_272 (lv_at hl 5 rfl) ?_
        obtain ⟨h45, hw⟩ := hw
        refine va_iald hx hb hK hP 9 0 rfl rfl h45 dX6_digest_274 ?_
        refine lv_i2l hx hb dX6_digest_275 rfl ?_
        refine kcR_l (kr_S [] ⟨hx, hb, hml, hown, hts⟩ (cn_X6_mix l G x4 ((yx x6.toNatClampNeg).toInt64) hw H.size) (va_cwS 2 hts gX6_digest_X6_mix rfl rfl rfl (by decide +kernel) ⟨Nat.le_of_ble_eq_true rfl, Nat.le_of_ble_eq_true rfl⟩) hK hG hP hD hS hA [] rfl rfl rfl hl.1 rfl (Nat.le_of_ble_eq_true rfl) dX6_digest_276 ⟨Nat.le_of_ble_eq_true rfl, Nat.le_of_ble_eq_true rfl⟩) hP hD hS hA [] rfl (fun r46 u H locs hw hP hS => ?_)
        try dsimp only at hw
        refine lv_lstore (lv' := [(4, .long r46), (0, .ref qy), (1, .int x1), (2, .int x2), (3, .int x3), (6, .int x6)]) hx hb dX6_digest_279 hl (by decide) rfl (fun ls hl => ?_)
        refine lv_iinc (v := (x6 + 1)) (lv' := [(6, .int (x6 + 1)), (4, .long r46), (0, .ref qy), (1, .int x1), (2, .int x2), (3, .int x3)]) hx hb dX6_digest_281 hl (k := 5) rfl rfl (by decide) rfl (fun ls hl => ?_)
        refine lv_goto (tgt := 257) hx hb dX6_digest_284 (by decide) ?_
        exact ih yu yf yr za x1 x2 x3 r46 (x6 + 1) _ _ _ hP hD hS (lv_sub hl [2, 3, 4, 5, 1, 0] rfl) hw
  have J237 : ∀ (yu : Nat → Int32) (yf : Nat → Int32) (yr : Nat → Int32) (za : Int32) (x1 : Int32) (x2 : Int32) (x3 : Int32) (x4 : Int64) (x6 : Int32) (y0 : Int64) (y1 : Int64) (H : Heap) (locs : List Loc) (ls : Array Slot), va_P (gD G) vwCl (w0_X6_digest G qy qyn qyt qyu qyf qyr qyb qyk qyi qyx yn yt yu yf yr yb yk yi yx za zs zl zt zg zr zm) H → va_D A (w0_X6_digest G qy qyn qyt qyu qyf qyr qyb qyk qyi qyx yn yt yu yf yr yb yk yi yx za zs zl zt zg zr zm) → va_S A s.heap H locs → lv_has ls 7 [(0, .ref qy), (1, .int x1), (2, .int x2), (3, .int x3), (4, .long x4), (6, .int x6)] → wj_n_X6_digest_237 yn yi yx zs zl Q yu yf yr za x1 x2 x3 x4 x6 y0 y1 → W p l e ({ frames := 4, cells := 0, slots := 0, locals := 95 } : Room) s m ([.ref qy] : List Value).toArray below meth c H locs 0 0 (MQ below (va_Ql (fun (r : Int64) (u : (Nat → Int32) × (Nat → Int32) × (Nat → Int32) × Int32) => Q r u.1 u.2.1 u.2.2.1 u.2.2.2) (mBk G A (fun (u : (Nat → Int32) × (Nat → Int32) × (Nat → Int32) × Int32) => (w0_X6_digest G qy qyn qyt qyu qyf qyr qyb qyk qyi qyx yn yt u.1 u.2.1 u.2.2.1 yb yk yi yx u.2.2.2 zs zl zt zg zr zm))) A) ([.ref qy] : List Value).toArray s 0 0 A) (F0 m 237 ls [.long y1, .long y0]) := by
    intro yu yf yr za x1 x2 x3 x4 x6 y0 y1 H locs ls hP hD hS hl hw
    unfold wj_n_X6_digest_237 at hw
    refine kcR_l (kr_S [] ⟨hx, hb, hml, hown, hts⟩ (cn_X6_mix l G y0 y1 hw H.size) (va_cwS 2 hts gX6_digest_X6_mix rfl rfl rfl (by decide +kernel) ⟨Nat.le_of_ble_eq_true rfl, Nat.le_of_ble_eq_true rfl⟩) hK hG hP hD hS hA [] rfl rfl rfl hl.1 rfl (Nat.le_of_ble_eq_true rfl) dX6_digest_237 ⟨Nat.le_of_ble_eq_true rfl, Nat.le_of_ble_eq_true rfl⟩) hP hD hS hA [] rfl (fun r42 u H locs hw hP hS => ?_)
    try dsimp only at hw
    refine lv_lstore (lv' := [(4, .long r42), (0, .ref qy), (1, .int x1), (2, .int x2), (3, .int x3), (6, .int x6)]) hx hb dX6_digest_240 hl (by decide) rfl (fun ls hl => ?_)
    refine lv_lload hx hb dX6_digest_242 (lv_at hl 0 rfl) ?_
    refine lv_aload_n hx hb dX6_digest_244 rfl (lv_at hl 1 rfl) ?_
    refine va_get (D := gD G) (ci := 6) (v := .int zl) (C := RX6) (T := TX6) (N := 16) hx hb hts k_X6_digest_inX6 hown hK hP 0 rfl rfl 11 (by decide) (hts _ k_X6_digest_f116) (fun _ h9 => h9) rfl dX6_digest_245 ?_
    refine lv_i2l hx hb dX6_digest_248 rfl ?_
    refine kcR_l (kr_S [] ⟨hx, hb, hml, hown, hts⟩ (cn_X6_mix l G r42 zl.toInt64 hw H.size) (va_cwS 2 hts gX6_digest_X6_mix rfl rfl rfl (by decide +kernel) ⟨Nat.le_of_ble_eq_true rfl, Nat.le_of_ble_eq_true rfl⟩) hK hG hP hD hS hA [] rfl rfl rfl hl.1 rfl (Nat.le_of_ble_eq_true rfl) dX6_digest_249 ⟨Nat.le_of_ble_eq_true rfl, Nat.le_of_ble_eq_true rfl⟩) hP hD hS hA [] rfl (fun r43 u H locs hw hP hS => ?_)
    try dsimp only at hw
    refine lv_lstore (lv' := [(4, .long r43), (0, .ref qy), (1, .int x1), (2, .int x2), (3, .int x3), (6, .int x6)]) hx hb dX6_digest_252 hl (by decide) rfl (fun ls hl => ?_)
    refine lv_iconst (v := 0) hx hb dX6_digest_254 (by decide) ?_
    refine lv_istore (lv' := [(6, .int (0 : Int32)), (4, .long r43), (0, .ref qy), (1, .int x1), (2, .int x2), (3, .int x3)]) hx hb dX6_digest_255 hl (by decide) rfl (fun ls hl => ?_)
    obtain ⟨n257, hw⟩ := hw
    exact J257 n257 yu yf yr za x1 x2 x3 r43 (0 : Int32) _ _ _ hP hD hS (lv_sub hl [2, 3, 4, 5, 1, 0] rfl) hw
  have J220 : ∀ (yu : Nat → Int32) (yf : Nat → Int32) (yr : Nat → Int32) (za : Int32) (x1 : Int32) (x2 : Int32) (x3 : Int32) (x4 : Int64) (x6 : Int32) (y0 : Int64) (y1 : Int64) (H : Heap) (locs : List Loc) (ls : Array Slot), va_P (gD G) vwCl (w0_X6_digest G qy qyn qyt qyu qyf qyr qyb qyk qyi qyx yn yt yu yf yr yb yk yi yx za zs zl zt zg zr zm) H → va_D A (w0_X6_digest G qy qyn qyt qyu qyf qyr qyb qyk qyi qyx yn yt yu yf yr yb yk yi yx za zs zl zt zg zr zm) → va_S A s.heap H locs → lv_has ls 7 [(0, .ref qy), (1, .int x1), (2, .int x2), (3, .int x3), (4, .long x4), (6, .int x6)] → wj_n_X6_digest_220 yn yi yx zs zl Q yu yf yr za x1 x2 x3 x4 x6 y0 y1 → W p l e ({ frames := 4, cells := 0, slots := 0, locals := 95 } : Room) s m ([.ref qy] : List Value).toArray below meth c H locs 0 0 (MQ below (va_Ql (fun (r : Int64) (u : (Nat → Int32) × (Nat → Int32) × (Nat → Int32) × Int32) => Q r u.1 u.2.1 u.2.2.1 u.2.2.2) (mBk G A (fun (u : (Nat → Int32) × (Nat → Int32) × (Nat → Int32) × Int32) => (w0_X6_digest G qy qyn qyt qyu qyf qyr qyb qyk qyi qyx yn yt u.1 u.2.1 u.2.2.1 yb yk yi yx u.2.2.2 zs zl zt zg zr zm))) A) ([.ref qy] : List Value).toArray s 0 0 A) (F0 m 220 ls [.long y1, .long y0]) := by
    intro yu yf yr za x1 x2 x3 x4 x6 y0 y1 H locs ls hP hD hS hl hw
    unfold wj_n_X6_digest_220 at hw
    refine kcR_l (kr_S [] ⟨hx, hb, hml, hown, hts⟩ (cn_X6_mix l G y0 y1 hw H.size) (va_cwS 2 hts gX6_digest_X6_mix rfl rfl rfl (by decide +kernel) ⟨Nat.le_of_ble_eq_true rfl, Nat.le_of_ble_eq_true rfl⟩) hK hG hP hD hS hA [] rfl rfl rfl hl.1 rfl (Nat.le_of_ble_eq_true rfl) dX6_digest_220 ⟨Nat.le_of_ble_eq_true rfl, Nat.le_of_ble_eq_true rfl⟩) hP hD hS hA [] rfl (fun r39 u H locs hw hP hS => ?_)
    try dsimp only at hw
    refine lv_aload_n hx hb dX6_digest_223 rfl (lv_at hl 0 rfl) ?_
    refine va_get (D := gD G) (ci := 6) (v := .ref qyi) (C := RX6) (T := TX6) (N := 16) hx hb hts k_X6_digest_inX6 hown hK hP 0 rfl rfl 9 (by decide) (hts _ k_X6_digest_f31) (fun _ h9 => h9) rfl dX6_digest_224 ?_
    refine lv_iconst (v := 1) hx hb dX6_digest_227 (by decide) ?_
    obtain ⟨h40, hw⟩ := hw
    refine va_zald hx hb hK hP 8 1 rfl rfl h40 dX6_digest_228 ?_
    refine lv_if_eq (tgt := 236) hx hb dX6_digest_229 (by decide) (fun cd41 => ?_) (fun cd41 => ?_)
    · have hw := hw.1 cd41
      refine lv_lconst (v := 0) hx hb dX6_digest_236 (by decide) ?_
      exact J237 yu yf yr za x1 x2 x3 x4 x6 r39 (0 : Int64) _ _ _ hP hD hS hl hw
    · have hw := hw.2 cd41
      refine lv_lconst (v := 1) hx hb dX6_digest_232 (by decide) ?_
      refine lv_goto (tgt := 237) hx hb dX6_digest_233 (by decide) ?_
      exact J237 yu yf yr za x1 x2 x3 x4 x6 r39 (1 : Int64) _ _ _ hP hD hS hl hw
  have J41 : ∀ (n : Nat) (yu : Nat → Int32) (yf : Nat → Int32) (yr : Nat → Int32) (za : Int32) (x1 : Int32) (x2 : Int32) (x3 : Int32) (x4 : Int64) (x6 : Int32) (H : Heap) (locs : List Loc) (ls : Array Slot), va_P (gD G) vwCl (w0_X6_digest G qy qyn qyt qyu qyf qyr qyb qyk qyi qyx yn yt yu yf yr yb yk yi yx za zs zl zt zg zr zm) H → va_D A (w0_X6_digest G qy qyn qyt qyu qyf qyr qyb qyk qyi qyx yn yt yu yf yr yb yk yi yx za zs zl zt zg zr zm) → va_S A s.heap H locs → lv_has ls 7 [(0, .ref qy), (1, .int x1), (2, .int x2), (3, .int x3), (4, .long x4), (6, .int x6)] → wl_n_X6_digest_41 yn yi yx zs zl Q n yu yf yr za x1 x2 x3 x4 x6 → W p l e ({ frames := 4, cells := 0, slots := 0, locals := 95 } : Room) s m ([.ref qy] : List Value).toArray below meth c H locs 0 0 (MQ below (va_Ql (fun (r : Int64) (u : (Nat → Int32) × (Nat → Int32) × (Nat → Int32) × Int32) => Q r u.1 u.2.1 u.2.2.1 u.2.2.2) (mBk G A (fun (u : (Nat → Int32) × (Nat → Int32) × (Nat → Int32) × Int32) => (w0_X6_digest G qy qyn qyt qyu qyf qyr qyb qyk qyi qyx yn yt u.1 u.2.1 u.2.2.1 yb yk yi yx u.2.2.2 zs zl zt zg zr zm))) A) ([.ref qy] : List Value).toArray s 0 0 A) (F0 m 41 ls []) := by
    intro n
    induction n with
    | zero => intro yu yf yr za x1 x2 x3 x4 x6 H locs ls hP hD hS hl hw; exact False.elim hw
    | succ n ih =>
      intro yu yf yr za x1 x2 x3 x4 x6 H locs ls hP hD hS hl hw
      rw [wl_n_X6_digest_41] at hw
      refine lv_iload hx hb dX6_digest_41 (lv_at hl 5 rfl) ?_
      refine lv_aload_n hx hb dX6_digest_43 rfl (lv_at hl 0 rfl) ?_
      refine va_get (D := gD G) (ci := 6) (v := .ref qyn) (C := RX6) (T := TX6) (N := 16) hx hb hts k_X6_digest_inX6 hown hK hP 0 rfl rfl 1 (by decide) (hts _ k_X6_digest_f7) (fun _ h9 => h9) rfl dX6_digest_44 ?_
      refine lv_bipush (v := 44) hx hb dX6_digest_47 (by decide) ?_
      obtain ⟨h9, hw⟩ := hw
      refine va_iald hx hb hK hP 1 0 rfl rfl h9 dX6_digest_49 ?_
      refine lv_icmp_ge (tgt := 70) hx hb dX6_digest_50 (by decide) (fun cd10 => ?_) (fun cd10 => ?_)
      · have hw := hw.1 cd10
        refine lv_lload hx hb dX6_digest_70 (lv_at hl 4 rfl) ?_
        refine lv_aload_n hx hb dX6_digest_72 rfl (lv_at hl 0 rfl) ?_
        refine va_get (D := gD G) (ci := 6) (v := .ref qyn) (C := RX6) (T := TX6) (N := 16) hx hb hts k_X6_digest_inX6 hown hK hP 0 rfl rfl 1 (by decide) (hts _ k_X6_digest_f7) (fun _ h9 => h9) rfl dX6_digest_73 ?_
        refine lv_bipush (v := 43) hx hb dX6_digest_76 (by decide) ?_
        obtain ⟨h11, hw⟩ := hw
        refine va_iald hx hb hK hP 1 0 rfl rfl h11 dX6_digest_78 ?_
        refine lv_i2l hx hb dX6_digest_79 rfl ?_
        refine kcR_l (kr_S [] ⟨hx, hb, hml, hown, hts⟩ (cn_X6_mix l G x4 ((yn (43 : Int32).toNatClampNeg).toInt64) hw H.size) (va_cwS 2 hts gX6_digest_X6_mix rfl rfl rfl (by decide +kernel) ⟨Nat.le_of_ble_eq_true rfl, Nat.le_of_ble_eq_true rfl⟩) hK hG hP hD hS hA [] rfl rfl rfl hl.1 rfl (Nat.le_of_ble_eq_true rfl) dX6_digest_80 ⟨Nat.le_of_ble_eq_true rfl, Nat.le_of_ble_eq_true rfl⟩) hP hD hS hA [] rfl (fun r12 u H locs hw hP hS => ?_)
        try dsimp only at hw
        refine lv_aload_n hx hb dX6_digest_83 rfl (lv_at hl 0 rfl) ?_
        refine va_get (D := gD G) (ci := 6) (v := .ref qyn) (C := RX6) (T := TX6) (N := 16) hx hb hts k_X6_digest_inX6 hown hK hP 0 rfl rfl 1 (by decide) (hts _ k_X6_digest_f7) (fun _ h9 => h9) rfl dX6_digest_84 ?_
        refine lv_bipush (v := 42) hx hb dX6_digest_87 (by decide) ?_
        obtain ⟨h13, hw⟩ := hw
        refine va_iald hx hb hK hP 1 0 rfl rfl h13 dX6_digest_89 ?_
        refine kcR_i (kr_S [.long r12] ⟨hx, hb, hml, hown, hts⟩ (cn_X6_bits l G (yn (42 : Int32).toNatClampNeg) hw H.size) (va_cwS 1 hts gX6_digest_X6_bits rfl rfl rfl (by decide +kernel) ⟨Nat.le_of_ble_eq_true rfl, Nat.le_of_ble_eq_true rfl⟩) hK hG hP hD hS hA [] rfl rfl rfl hl.1 rfl (Nat.le_of_ble_eq_true rfl) dX6_digest_90 ⟨Nat.le_of_ble_eq_true rfl, Nat.le_of_ble_eq_true rfl⟩) hP hD hS hA [] rfl (fun r14 u H locs hw hP hS => ?_)
        try dsimp only at hw
        refine lv_i2l hx hb dX6_digest_93 rfl ?_
        refine kcR_l (kr_S [] ⟨hx, hb, hml, hown, hts⟩ (cn_X6_mix l G r12 r14.toInt64 hw H.size) (va_cwS 2 hts gX6_digest_X6_mix rfl rfl rfl (by decide +kernel) ⟨Nat.le_of_ble_eq_true rfl, Nat.le_of_ble_eq_true rfl⟩) hK hG hP hD hS hA [] rfl rfl rfl hl.1 rfl (Nat.le_of_ble_eq_true rfl) dX6_digest_94 ⟨Nat.le_of_ble_eq_true rfl, Nat.le_of_ble_eq_true rfl⟩) hP hD hS hA [] rfl (fun r15 u H locs hw hP hS => ?_)
        try dsimp only at hw
        refine lv_aload_n hx hb dX6_digest_97 rfl (lv_at hl 0 rfl) ?_
        refine kcR_i (kr_V [.long r15] ⟨hx, hb, hml, hown, hts⟩ (cn_X6_fameOfBooked l G qy qyn qyt qyu qyf qyr qyb qyk qyi qyx yn yt yu yf yr yb yk yi yx za zs zl zt zg zr zm hw H.size) (cwV 0 hts gX6_digest_X6_fameOfBooked rfl rfl rfl (by decide +kernel) ⟨Nat.le_of_ble_eq_true rfl, Nat.le_of_ble_eq_true rfl⟩) hK hG hP hD hS hA [0, 1, 2, 3, 4, 5, 6, 7, 8, 9] rfl rfl 6 0 rfl rfl rfl hl.1 rfl (Nat.le_of_ble_eq_true rfl) dX6_digest_98 ⟨Nat.le_of_ble_eq_true rfl, Nat.le_of_ble_eq_true rfl⟩) hP hD hS hA [0, 1, 2, 3, 4, 5, 6, 7, 8, 9] rfl (fun r16 u H locs hw hP hS => ?_)
        try dsimp only at hw
        refine lv_i2l hx hb dX6_digest_101 rfl ?_
        refine kcR_l (kr_S [] ⟨hx, hb, hml, hown, hts⟩ (cn_X6_mix l G r15 r16.toInt64 hw H.size) (va_cwS 2 hts gX6_digest_X6_mix rfl rfl rfl (by decide +kernel) ⟨Nat.le_of_ble_eq_true rfl, Nat.le_of_ble_eq_true rfl⟩) hK hG hP hD hS hA [] rfl rfl rfl hl.1 rfl (Nat.le_of_ble_eq_true rfl) dX6_digest_102 ⟨Nat.le_of_ble_eq_true rfl, Nat.le_of_ble_eq_true rfl⟩) hP hD hS hA [] rfl (fun r17 u H locs hw hP hS => ?_)
        try dsimp only at hw
        refine lv_lstore (lv' := [(4, .long r17), (0, .ref qy), (1, .int x1), (2, .int x2), (3, .int x3), (6, .int x6)]) hx hb dX6_digest_105 hl (by decide) rfl (fun ls hl => ?_)
        refine lv_lload hx hb dX6_digest_107 (lv_at hl 0 rfl) ?_
        refine lv_aload_n hx hb dX6_digest_109 rfl (lv_at hl 1 rfl) ?_
        refine kcR_i (kr_V [.long r17] ⟨hx, hb, hml, hown, hts⟩ (cn_X6_pairs l G qy qyn qyt qyu qyf qyr qyb qyk qyi qyx yn yt yu yf yr yb yk yi yx za zs zl zt zg zr zm hw H.size) (cwV 0 hts gX6_digest_X6_pairs rfl rfl rfl (by decide +kernel) ⟨Nat.le_of_ble_eq_true rfl, Nat.le_of_ble_eq_true rfl⟩) hK hG hP hD hS hA [0, 1, 2, 3, 4, 5, 6, 7, 8, 9] rfl rfl 6 0 rfl rfl rfl hl.1 rfl (Nat.le_of_ble_eq_true rfl) dX6_digest_110 ⟨Nat.le_of_ble_eq_true rfl, Nat.le_of_ble_eq_true rfl⟩) hP hD hS hA [0, 1, 2, 3, 4, 5, 6, 7, 8, 9] rfl (fun r18 u H locs hw hP hS => ?_)
        try dsimp only at hw
        refine lv_i2l hx hb dX6_digest_113 rfl ?_
        refine kcR_l (kr_S [] ⟨hx, hb, hml, hown, hts⟩ (cn_X6_mix l G r17 r18.toInt64 hw H.size) (va_cwS 2 hts gX6_digest_X6_mix rfl rfl rfl (by decide +kernel) ⟨Nat.le_of_ble_eq_true rfl, Nat.le_of_ble_eq_true rfl⟩) hK hG hP hD hS hA [] rfl rfl rfl hl.1 rfl (Nat.le_of_ble_eq_true rfl) dX6_digest_114 ⟨Nat.le_of_ble_eq_true rfl, Nat.le_of_ble_eq_true rfl⟩) hP hD hS hA [] rfl (fun r19 u H locs hw hP hS => ?_)
        try dsimp only at hw
        refine lv_aload_n hx hb dX6_digest_117 rfl (lv_at hl 1 rfl) ?_
        refine kcR_i (kr_V [.long r19] ⟨hx, hb, hml, hown, hts⟩ (cn_X6_pairs l G qy qyn qyt qyu qyf qyr qyb qyk qyi qyx yn yt yu yf yr yb yk yi yx za zs zl zt zg zr zm hw H.size) (cwV 0 hts gX6_digest_X6_pairs rfl rfl rfl (by decide +kernel) ⟨Nat.le_of_ble_eq_true rfl, Nat.le_of_ble_eq_true rfl⟩) hK hG hP hD hS hA [0, 1, 2, 3, 4, 5, 6, 7, 8, 9] rfl rfl 6 0 rfl rfl rfl hl.1 rfl (Nat.le_of_ble_eq_true rfl) dX6_digest_118 ⟨Nat.le_of_ble_eq_true rfl, Nat.le_of_ble_eq_true rfl⟩) hP hD hS hA [0, 1, 2, 3, 4, 5, 6, 7, 8, 9] rfl (fun r20 u H locs hw hP hS => ?_)
        try dsimp only at hw
        refine lv_i2l hx hb dX6_digest_121 rfl ?_
        refine kcR_l (kr_S [] ⟨hx, hb, hml, hown, hts⟩ (cn_X6_mix l G r19 r20.toInt64 hw H.size) (va_cwS 2 hts gX6_digest_X6_mix rfl rfl rfl (by decide +kernel) ⟨Nat.le_of_ble_eq_true rfl, Nat.le_of_ble_eq_true rfl⟩) hK hG hP hD hS hA [] rfl rfl rfl hl.1 rfl (Nat.le_of_ble_eq_true rfl) dX6_digest_122 ⟨Nat.le_of_ble_eq_true rfl, Nat.le_of_ble_eq_true rfl⟩) hP hD hS hA [] rfl (fun r21 u H locs hw hP hS => ?_)
        try dsimp only at hw
        refine lv_lstore (lv' := [(4, .long r21), (0, .ref qy), (1, .int x1), (2, .int x2), (3, .int x3), (6, .int x6)]) hx hb dX6_digest_125 hl (by decide) rfl (fun ls hl => ?_)
        refine lv_lload hx hb dX6_digest_127 (lv_at hl 0 rfl) ?_
        refine lv_iload_n hx hb dX6_digest_129 rfl (lv_at hl 2 rfl) ?_
        refine lv_i2l hx hb dX6_digest_130 rfl ?_
        refine kcR_l (kr_S [] ⟨hx, hb, hml, hown, hts⟩ (cn_X6_mix l G r21 x1.toInt64 hw H.size) (va_cwS 2 hts gX6_digest_X6_mix rfl rfl rfl (by decide +kernel) ⟨Nat.le_of_ble_eq_true rfl, Nat.le_of_ble_eq_true rfl⟩) hK hG hP hD hS hA [] rfl rfl rfl hl.1 rfl (Nat.le_of_ble_eq_true rfl) dX6_digest_131 ⟨Nat.le_of_ble_eq_true rfl, Nat.le_of_ble_eq_true rfl⟩) hP hD hS hA [] rfl (fun r22 u H locs hw hP hS => ?_)
        try dsimp only at hw
        refine lv_iload_n hx hb dX6_digest_134 rfl (lv_at hl 2 rfl) ?_
        refine lv_i2l hx hb dX6_digest_135 rfl ?_
        refine kcR_l (kr_S [] ⟨hx, hb, hml, hown, hts⟩ (cn_X6_mix l G r22 x1.toInt64 hw H.size) (va_cwS 2 hts gX6_digest_X6_mix rfl rfl rfl (by decide +kernel) ⟨Nat.le_of_ble_eq_true rfl, Nat.le_of_ble_eq_true rfl⟩) hK hG hP hD hS hA [] rfl rfl rfl hl.1 rfl (Nat.le_of_ble_eq_true rfl) dX6_digest_136 ⟨Nat.le_of_ble_eq_true rfl, Nat.le_of_ble_eq_true rfl⟩) hP hD hS hA [] rfl (fun r23 u H locs hw hP hS => ?_)
        try dsimp only at hw
        refine lv_lstore (lv' := [(4, .long r23), (0, .ref qy), (1, .int x1), (2, .int x2), (3, .int x3), (6, .int x6)]) hx hb dX6_digest_139 hl (by decide) rfl (fun ls hl => ?_)
        refine lv_lload hx hb dX6_digest_141 (lv_at hl 0 rfl) ?_
        refine lv_aload_n hx hb dX6_digest_143 rfl (lv_at hl 1 rfl) ?_
        refine va_get (D := gD G) (ci := 6) (v := .ref qyu) (C := RX6) (T := TX6) (N := 16) hx hb hts k_X6_digest_inX6 hown hK hP 0 rfl rfl 3 (by decide) (hts _ k_X6_digest_f16) (fun _ h9 => h9) rfl dX6_digest_144 ?_
        refine lv_iload_n hx hb dX6_digest_147 rfl (lv_at hl 4 rfl) ?_
        obtain ⟨h24, hw⟩ := hw
        refine va_iald hx hb hK hP 3 0 rfl rfl h24 dX6_digest_148 ?_
        refine lv_i2l hx hb dX6_digest_149 rfl ?_
        refine kcR_l (kr_S [] ⟨hx, hb, hml, hown, hts⟩ (cn_X6_mix l G r23 ((yu x3.toNatClampNeg).toInt64) hw H.size) (va_cwS 2 hts gX6_digest_X6_mix rfl rfl rfl (by decide +kernel) ⟨Nat.le_of_ble_eq_true rfl, Nat.le_of_ble_eq_true rfl⟩) hK hG hP hD hS hA [] rfl rfl rfl hl.1 rfl (Nat.le_of_ble_eq_true rfl) dX6_digest_150 ⟨Nat.le_of_ble_eq_true rfl, Nat.le_of_ble_eq_true rfl⟩) hP hD hS hA [] rfl (fun r25 u H locs hw hP hS => ?_)
        try dsimp only at hw
        refine lv_aload_n hx hb dX6_digest_153 rfl (lv_at hl 1 rfl) ?_
        refine va_get (D := gD G) (ci := 6) (v := .ref qyu) (C := RX6) (T := TX6) (N := 16) hx hb hts k_X6_digest_inX6 hown hK hP 0 rfl rfl 3 (by decide) (hts _ k_X6_digest_f16) (fun _ h9 => h9) rfl dX6_digest_154 ?_
        refine lv_iload_n hx hb dX6_digest_157 rfl (lv_at hl 4 rfl) ?_
        obtain ⟨h26, hw⟩ := hw
        refine va_iald hx hb hK hP 3 0 rfl rfl h26 dX6_digest_158 ?_
        refine lv_i2l hx hb dX6_digest_159 rfl ?_
        refine kcR_l (kr_S [] ⟨hx, hb, hml, hown, hts⟩ (cn_X6_mix l G r25 ((yu x3.toNatClampNeg).toInt64) hw H.size) (va_cwS 2 hts gX6_digest_X6_mix rfl rfl rfl (by decide +kernel) ⟨Nat.le_of_ble_eq_true rfl, Nat.le_of_ble_eq_true rfl⟩) hK hG hP hD hS hA [] rfl rfl rfl hl.1 rfl (Nat.le_of_ble_eq_true rfl) dX6_digest_160 ⟨Nat.le_of_ble_eq_true rfl, Nat.le_of_ble_eq_true rfl⟩) hP hD hS hA [] rfl (fun r27 u H locs hw hP hS => ?_)
        try dsimp only at hw
        refine lv_iload_n hx hb dX6_digest_163 rfl (lv_at hl 4 rfl) ?_
        refine lv_i2l hx hb dX6_digest_164 rfl ?_
        refine kcR_l (kr_S [] ⟨hx, hb, hml, hown, hts⟩ (cn_X6_mix l G r27 x3.toInt64 hw H.size) (va_cwS 2 hts gX6_digest_X6_mix rfl rfl rfl (by decide +kernel) ⟨Nat.le_of_ble_eq_true rfl, Nat.le_of_ble_eq_true rfl⟩) hK hG hP hD hS hA [] rfl rfl rfl hl.1 rfl (Nat.le_of_ble_eq_true rfl) dX6_digest_165 ⟨Nat.le_of_ble_eq_true rfl, Nat.le_of_ble_eq_true rfl⟩) hP hD hS hA [] rfl (fun r28 u H locs hw hP hS => ?_)
        try dsimp only at hw
        refine lv_lstore (lv' := [(4, .long r28), (0, .ref qy), (1, .int x1), (2, .int x2), (3, .int x3), (6, .int x6)]) hx hb dX6_digest_168 hl (by decide) rfl (fun ls hl => ?_)
        refine lv_lload hx hb dX6_digest_170 (lv_at hl 0 rfl) ?_
        refine lv_aload_n hx hb dX6_digest_172 rfl (lv_at hl 1 rfl) ?_
        refine kc_i (kr_V [.long r28] ⟨hx, hb, hml, hown, hts⟩ (cn_X6_most l G qy qyn qyt qyu qyf qyr qyb qyk qyi qyx yn yt yu yf yr yb yk yi yx za zs zl zt zg zr zm hw H.size) (cwV 0 hts gX6_digest_X6_most rfl rfl rfl (by decide +kernel) ⟨Nat.le_of_ble_eq_true rfl, Nat.le_of_ble_eq_true rfl⟩) hK hG hP hD hS hA [0, 1, 2, 3, 4, 5, 6, 7, 8, 9] rfl rfl 6 0 rfl rfl rfl hl.1 rfl (Nat.le_of_ble_eq_true rfl) dX6_digest_173 ⟨Nat.le_of_ble_eq_true rfl, Nat.le_of_ble_eq_true rfl⟩) hP hD hS hA [0, 1, 2, 3, 4, 5, 6, 7, 8, 9] [] rfl rfl rfl (by decide) (fun r29 u H locs hw hP hD hS => ?_)
        obtain ⟨yu_30, yf_31⟩ := u
        try dsimp only at hw
        have hP := hP.sub (ws' := (w0_X6_digest G qy qyn qyt qyu qyf qyr qyb qyk qyi qyx yn yt yu_30 yf_31 yr yb yk yi yx za zs zl zt zg zr zm)) [0, 1, 2, 3, 4, 5, 6, 7, 8, 9] rfl
        have hD := hD.sub (ws' := (w0_X6_digest G qy qyn qyt qyu qyf qyr qyb qyk qyi qyx yn yt yu_30 yf_31 yr yb yk yi yx za zs zl zt zg zr zm)) [0, 1, 2, 3, 4, 5, 6, 7, 8, 9] rfl rfl
        refine lv_i2l hx hb dX6_digest_176 rfl ?_
        refine kcR_l (kr_S [] ⟨hx, hb, hml, hown, hts⟩ (cn_X6_mix l G r28 r29.toInt64 hw H.size) (va_cwS 2 hts gX6_digest_X6_mix rfl rfl rfl (by decide +kernel) ⟨Nat.le_of_ble_eq_true rfl, Nat.le_of_ble_eq_true rfl⟩) hK hG hP hD hS hA [] rfl rfl rfl hl.1 rfl (Nat.le_of_ble_eq_true rfl) dX6_digest_177 ⟨Nat.le_of_ble_eq_true rfl, Nat.le_of_ble_eq_true rfl⟩) hP hD hS hA [] rfl (fun r32 u H locs hw hP hS => ?_)
        try dsimp only at hw
        refine lv_aload_n hx hb dX6_digest_180 rfl (lv_at hl 1 rfl) ?_
        refine va_get (D := gD G) (ci := 6) (v := .int zs) (C := RX6) (T := TX6) (N := 16) hx hb hts k_X6_digest_inX6 hown hK hP 0 rfl rfl 7 (by decide) (hts _ k_X6_digest_f70) (fun _ h9 => h9) rfl dX6_digest_181 ?_
        refine lv_i2l hx hb dX6_digest_184 rfl ?_
        refine kcR_l (kr_S [] ⟨hx, hb, hml, hown, hts⟩ (cn_X6_mix l G r32 zs.toInt64 hw H.size) (va_cwS 2 hts gX6_digest_X6_mix rfl rfl rfl (by decide +kernel) ⟨Nat.le_of_ble_eq_true rfl, Nat.le_of_ble_eq_true rfl⟩) hK hG hP hD hS hA [] rfl rfl rfl hl.1 rfl (Nat.le_of_ble_eq_true rfl) dX6_digest_185 ⟨Nat.le_of_ble_eq_true rfl, Nat.le_of_ble_eq_true rfl⟩) hP hD hS hA [] rfl (fun r33 u H locs hw hP hS => ?_)
        try dsimp only at hw
        refine lv_lstore (lv' := [(4, .long r33), (0, .ref qy), (1, .int x1), (2, .int x2), (3, .int x3), (6, .int x6)]) hx hb dX6_digest_188 hl (by decide) rfl (fun ls hl => ?_)
        refine lv_lload hx hb dX6_digest_190 (lv_at hl 0 rfl) ?_
        refine lv_aload_n hx hb dX6_digest_192 rfl (lv_at hl 1 rfl) ?_
        refine kcR_d (kr_V [.long r33] ⟨hx, hb, hml, hown, hts⟩ (cn_X6_share l G qy qyn qyt qyu qyf qyr qyb qyk qyi qyx yn yt yu_30 yf_31 yr yb yk yi yx za zs zl zt zg zr zm hw H.size) (cwV 0 hts gX6_digest_X6_share rfl rfl rfl (by decide +kernel) ⟨Nat.le_of_ble_eq_true rfl, Nat.le_of_ble_eq_true rfl⟩) hK hG hP hD hS hA [0, 1, 2, 3, 4, 5, 6, 7, 8, 9] rfl rfl 6 0 rfl rfl rfl hl.1 rfl (Nat.le_of_ble_eq_true rfl) dX6_digest_193 ⟨Nat.le_of_ble_eq_true rfl, Nat.le_of_ble_eq_true rfl⟩) hP hD hS hA [0, 1, 2, 3, 4, 5, 6, 7, 8, 9] rfl (fun r34 u H locs hw hP hS => ?_)
        try dsimp only at hw
        refine kcR_l (kr_S [.long r33] ⟨hx, hb, hml, hown, hts⟩ (cn_Jxe99ae_doubleToLongBits_ccdee l G r34 hw H.size) (va_cwS 1 hts gX6_digest_Jxe99ae_doubleToLongBits_ccdee rfl rfl rfl (by decide +kernel) ⟨Nat.le_of_ble_eq_true rfl, Nat.le_of_ble_eq_true rfl⟩) hK hG hP hD hS hA [] rfl rfl rfl hl.1 rfl (Nat.le_of_ble_eq_true rfl) dX6_digest_196 ⟨Nat.le_of_ble_eq_true rfl, Nat.le_of_ble_eq_true rfl⟩) hP hD hS hA [] rfl (fun r35 u H locs hw hP hS => ?_)
        try dsimp only at hw
        refine kcR_l (kr_S [] ⟨hx, hb, hml, hown, hts⟩ (cn_X6_mix l G r33 r35 hw H.size) (va_cwS 2 hts gX6_digest_X6_mix rfl rfl rfl (by decide +kernel) ⟨Nat.le_of_ble_eq_true rfl, Nat.le_of_ble_eq_true rfl⟩) hK hG hP hD hS hA [] rfl rfl rfl hl.1 rfl (Nat.le_of_ble_eq_true rfl) dX6_digest_199 ⟨Nat.le_of_ble_eq_true rfl, Nat.le_of_ble_eq_true rfl⟩) hP hD hS hA [] rfl (fun r36 u H locs hw hP hS => ?_)
        try dsimp only at hw
        refine lv_lstore (lv' := [(4, .long r36), (0, .ref qy), (1, .int x1), (2, .int x2), (3, .int x3), (6, .int x6)]) hx hb dX6_digest_202 hl (by decide) rfl (fun ls hl => ?_)
        refine lv_lload hx hb dX6_digest_204 (lv_at hl 0 rfl) ?_
        refine lv_aload_n hx hb dX6_digest_206 rfl (lv_at hl 1 rfl) ?_
        refine va_get (D := gD G) (ci := 6) (v := .ref qyi) (C := RX6) (T := TX6) (N := 16) hx hb hts k_X6_digest_inX6 hown hK hP 0 rfl rfl 9 (by decide) (hts _ k_X6_digest_f31) (fun _ h9 => h9) rfl dX6_digest_207 ?_
        refine lv_iconst (v := 0) hx hb dX6_digest_210 (by decide) ?_
        obtain ⟨h37, hw⟩ := hw
        refine va_zald hx hb hK hP 8 1 rfl rfl h37 dX6_digest_211 ?_
        refine lv_if_eq (tgt := 219) hx hb dX6_digest_212 (by decide) (fun cd38 => ?_) (fun cd38 => ?_)
        · have hw := hw.1 cd38
          refine lv_lconst (v := 0) hx hb dX6_digest_219 (by decide) ?_
          exact J220 yu_30 yf_31 yr za x1 x2 x3 r36 x6 r36 (0 : Int64) _ _ _ hP hD hS (lv_sub hl [1, 2, 3, 4, 0, 5] rfl) hw
        · have hw := hw.2 cd38
          refine lv_lconst (v := 1) hx hb dX6_digest_215 (by decide) ?_
          refine lv_goto (tgt := 220) hx hb dX6_digest_216 (by decide) ?_
          exact J220 yu_30 yf_31 yr za x1 x2 x3 r36 x6 r36 (1 : Int64) _ _ _ hP hD hS (lv_sub hl [1, 2, 3, 4, 0, 5] rfl) hw
      · have hw := hw.2 cd10
        refine lv_aload_n hx hb dX6_digest_53 rfl (lv_at hl 0 rfl) ?_
        refine lv_lload hx hb dX6_digest_54 (lv_at hl 4 rfl) ?_
        refine lv_iload hx hb dX6_digest_56 (lv_at hl 5 rfl) ?_
        refine lv_iload_n hx hb dX6_digest_58 rfl (lv_at hl 2 rfl) ?_
        refine kcR_l (kr_V [] ⟨hx, hb, hml, hown, hts⟩ (cn_X6_oneHash l G qy qyn qyt qyu qyf qyr qyb qyk qyi qyx yn yt yu yf yr yb yk yi yx za zs zl zt zg zr zm x4 x6 x2 hw H.size) (cwV 3 hts gX6_digest_X6_oneHash rfl rfl rfl (by decide +kernel) ⟨Nat.le_of_ble_eq_true rfl, Nat.le_of_ble_eq_true rfl⟩) hK hG hP hD hS hA [0, 1, 2, 3, 4, 5, 6, 7, 8, 9] rfl rfl 6 0 rfl rfl rfl hl.1 rfl (Nat.le_of_ble_eq_true rfl) dX6_digest_59 ⟨Nat.le_of_ble_eq_true rfl, Nat.le_of_ble_eq_true rfl⟩) hP hD hS hA [0, 1, 2, 3, 4, 5, 6, 7, 8, 9] rfl (fun r47 u H locs hw hP hS => ?_)
        try dsimp only at hw
        refine lv_lstore (lv' := [(4, .long r47), (0, .ref qy), (1, .int x1), (2, .int x2), (3, .int x3), (6, .int x6)]) hx hb dX6_digest_62 hl (by decide) rfl (fun ls hl => ?_)
        refine lv_iinc (v := (x6 + 1)) (lv' := [(6, .int (x6 + 1)), (4, .long r47), (0, .ref qy), (1, .int x1), (2, .int x2), (3, .int x3)]) hx hb dX6_digest_64 hl (k := 5) rfl rfl (by decide) rfl (fun ls hl => ?_)
        refine lv_goto (tgt := 41) hx hb dX6_digest_67 (by decide) ?_
        exact ih yu yf yr za x1 x2 x3 r47 (x6 + 1) _ _ _ hP hD hS (lv_sub hl [2, 3, 4, 5, 1, 0] rfl) hw
  unfold wn_X6_digest at hw
  refine lv_aload_n hx hb dX6_digest_0 rfl (lv_at hl 0 rfl) ?_
  refine lv_iconst (v := 0) hx hb dX6_digest_1 (by decide) ?_
  refine va_put (D := gD G) (ci := 6) (v := .int (0 : Int32)) (ty := .int) (C := RX6) (T := TX6) (N := 16) hx hb hts k_X6_digest_inX6 tyX6 tyX6_ok nmX6 hown hK hP hD hS 0 rfl rfl 0 (by decide) (hts _ k_X6_digest_f38) (fun _ h9 => h9) rfl (by decide +kernel) rfl rfl (Nat.le_of_ble_eq_true rfl) dX6_digest_2 (fun H locs hP hD hS => ?_)
  have hP : va_P (gD G) vwCl (w0_X6_digest G qy qyn qyt qyu qyf qyr qyb qyk qyi qyx yn yt yu yf yr yb yk yi yx (0 : Int32) zs zl zt zg zr zm) H := hP
  have hD : va_D A (w0_X6_digest G qy qyn qyt qyu qyf qyr qyb qyk qyi qyx yn yt yu yf yr yb yk yi yx (0 : Int32) zs zl zt zg zr zm) := hD
  refine lv_aload_n hx hb dX6_digest_5 rfl (lv_at hl 0 rfl) ?_
  refine kc_i (kr_V [] ⟨hx, hb, hml, hown, hts⟩ (cn_X6_give l G qy qyn qyt qyu qyf qyr qyb qyk qyi qyx yn yt yu yf yr yb yk yi yx (0 : Int32) zs zl zt zg zr zm hw H.size) (cwV 0 hts gX6_digest_X6_give rfl rfl rfl (by decide +kernel) ⟨Nat.le_of_ble_eq_true rfl, Nat.le_of_ble_eq_true rfl⟩) hK hG hP hD hS hA [0, 1, 2, 3, 4, 5, 6, 7, 8, 9] rfl rfl 6 0 rfl rfl rfl hl.1 rfl (Nat.le_of_ble_eq_true rfl) dX6_digest_6 ⟨Nat.le_of_ble_eq_true rfl, Nat.le_of_ble_eq_true rfl⟩) hP hD hS hA [0, 1, 2, 3, 4, 5, 6, 7, 8, 9] [] rfl rfl rfl (by decide) (fun r1 u H locs hw hP hD hS => ?_)
  obtain ⟨yr_2, rfl⟩ : ∃ z, z = u := ⟨_, rfl⟩
  try dsimp only at hw
  have hP := hP.sub (ws' := (w0_X6_digest G qy qyn qyt qyu qyf qyr qyb qyk qyi qyx yn yt yu yf yr_2 yb yk yi yx (0 : Int32) zs zl zt zg zr zm)) [0, 1, 2, 3, 4, 5, 6, 7, 8, 9] rfl
  have hD := hD.sub (ws' := (w0_X6_digest G qy qyn qyt qyu qyf qyr qyb qyk qyi qyx yn yt yu yf yr_2 yb yk yi yx (0 : Int32) zs zl zt zg zr zm)) [0, 1, 2, 3, 4, 5, 6, 7, 8, 9] rfl rfl
  refine lv_istore_n (lv' := [(1, .int r1), (0, .ref qy)]) hx hb dX6_digest_9 rfl hl (by decide) rfl (fun ls hl => ?_)
  refine lv_aload_n hx hb dX6_digest_10 rfl (lv_at hl 1 rfl) ?_
  refine kc_i (kr_V [] ⟨hx, hb, hml, hown, hts⟩ (cn_X6_fill l G qy qyn qyt qyu qyf qyr qyb qyk qyi qyx yn yt yu yf yr_2 yb yk yi yx (0 : Int32) zs zl zt zg zr zm hw H.size) (cwV 0 hts gX6_digest_X6_fill rfl rfl rfl (by decide +kernel) ⟨Nat.le_of_ble_eq_true rfl, Nat.le_of_ble_eq_true rfl⟩) hK hG hP hD hS hA [0, 1, 2, 3, 4, 5, 6, 7, 8, 9] rfl rfl 6 0 rfl rfl rfl hl.1 rfl (Nat.le_of_ble_eq_true rfl) dX6_digest_11 ⟨Nat.le_of_ble_eq_true rfl, Nat.le_of_ble_eq_true rfl⟩) hP hD hS hA [0, 1, 2, 3, 4, 5, 6, 7, 8, 9] [] rfl rfl rfl (by decide) (fun r3 u H locs hw hP hD hS => ?_)
  obtain ⟨yu_4, yf_5⟩ := u
  try dsimp only at hw
  have hP := hP.sub (ws' := (w0_X6_digest G qy qyn qyt qyu qyf qyr qyb qyk qyi qyx yn yt yu_4 yf_5 yr_2 yb yk yi yx (0 : Int32) zs zl zt zg zr zm)) [0, 1, 2, 3, 4, 5, 6, 7, 8, 9] rfl
  have hD := hD.sub (ws' := (w0_X6_digest G qy qyn qyt qyu qyf qyr qyb qyk qyi qyx yn yt yu_4 yf_5 yr_2 yb yk yi yx (0 : Int32) zs zl zt zg zr zm)) [0, 1, 2, 3, 4, 5, 6, 7, 8, 9] rfl rfl
  refine lv_istore_n (lv' := [(2, .int r3), (1, .int r1), (0, .ref qy)]) hx hb dX6_digest_14 rfl hl (by decide) rfl (fun ls hl => ?_)
  refine lv_aload_n hx hb dX6_digest_15 rfl (lv_at hl 2 rfl) ?_
  refine lv_iload_n hx hb dX6_digest_16 rfl (lv_at hl 0 rfl) ?_
  refine lv_iconst (v := 0) hx hb dX6_digest_17 (by decide) ?_
  refine kcR_i (kr_V [] ⟨hx, hb, hml, hown, hts⟩ (cn_X6_bestSet l G qy qyn qyt qyu qyf qyr qyb qyk qyi qyx yn yt yu_4 yf_5 yr_2 yb yk yi yx (0 : Int32) zs zl zt zg zr zm r3 (0 : Int32) hw H.size) (cwV 2 hts gX6_digest_X6_bestSet rfl rfl rfl (by decide +kernel) ⟨Nat.le_of_ble_eq_true rfl, Nat.le_of_ble_eq_true rfl⟩) hK hG hP hD hS hA [0, 1, 2, 3, 4, 5, 6, 7, 8, 9] rfl rfl 6 0 rfl rfl rfl hl.1 rfl (Nat.le_of_ble_eq_true rfl) dX6_digest_18 ⟨Nat.le_of_ble_eq_true rfl, Nat.le_of_ble_eq_true rfl⟩) hP hD hS hA [0, 1, 2, 3, 4, 5, 6, 7, 8, 9] rfl (fun r6 u H locs hw hP hS => ?_)
  try dsimp only at hw
  refine lv_istore_n (lv' := [(3, .int r6), (2, .int r3), (1, .int r1), (0, .ref qy)]) hx hb dX6_digest_21 rfl hl (by decide) rfl (fun ls hl => ?_)
  refine lv_ldc2 (v := 4327) hx hb hown (hts _ k_X6_digest_c190) dX6_digest_22 ?_
  refine lv_aload_n hx hb dX6_digest_25 rfl (lv_at hl 3 rfl) ?_
  refine va_get (D := gD G) (ci := 6) (v := .ref qyn) (C := RX6) (T := TX6) (N := 16) hx hb hts k_X6_digest_inX6 hown hK hP 0 rfl rfl 1 (by decide) (hts _ k_X6_digest_f7) (fun _ h9 => h9) rfl dX6_digest_26 ?_
  refine lv_bipush (v := 44) hx hb dX6_digest_29 (by decide) ?_
  obtain ⟨h7, hw⟩ := hw
  refine va_iald hx hb hK hP 1 0 rfl rfl h7 dX6_digest_31 ?_
  refine lv_i2l hx hb dX6_digest_32 rfl ?_
  refine kcR_l (kr_S [] ⟨hx, hb, hml, hown, hts⟩ (cn_X6_mix l G (4327 : Int64) ((yn (44 : Int32).toNatClampNeg).toInt64) hw H.size) (va_cwS 2 hts gX6_digest_X6_mix rfl rfl rfl (by decide +kernel) ⟨Nat.le_of_ble_eq_true rfl, Nat.le_of_ble_eq_true rfl⟩) hK hG hP hD hS hA [] rfl rfl rfl hl.1 rfl (Nat.le_of_ble_eq_true rfl) dX6_digest_33 ⟨Nat.le_of_ble_eq_true rfl, Nat.le_of_ble_eq_true rfl⟩) hP hD hS hA [] rfl (fun r8 u H locs hw hP hS => ?_)
  try dsimp only at hw
  refine lv_lstore (lv' := [(4, .long r8), (3, .int r6), (2, .int r3), (1, .int r1), (0, .ref qy)]) hx hb dX6_digest_36 hl (by decide) rfl (fun ls hl => ?_)
  refine lv_iconst (v := 0) hx hb dX6_digest_38 (by decide) ?_
  refine lv_istore (lv' := [(6, .int (0 : Int32)), (4, .long r8), (3, .int r6), (2, .int r3), (1, .int r1), (0, .ref qy)]) hx hb dX6_digest_39 hl (by decide) rfl (fun ls hl => ?_)
  obtain ⟨n41, hw⟩ := hw
  exact J41 n41 yu_4 yf_5 yr_2 (0 : Int32) r1 r3 r6 r8 (0 : Int32) _ _ _ hP hD hS (lv_sub hl [5, 4, 3, 2, 1, 0] rfl) hw
