abbrev w0_X6_clearBuffer (G : mG) (qy : Nat) (qyn : Nat) (qyt : Nat) (qyu : Nat) (qyf : Nat) (qyr : Nat) (qyb : Nat) (qyk : Nat) (qyi : Nat) (qyx : Nat) (yn : Nat → Int32) (yt : Nat → Int32) (yu : Nat → Int32) (yf : Nat → Int32) (yr : Nat → Int32) (yb : Nat → Int32) (yk : Nat → Int32) (yi : Nat → Int32) (yx : Nat → Int32) (za : Int32) (zs : Int32) (zl : Int32) (zt : Int32) (zg : Int32) (zr : Int32) (zm : Int32) : va_W := [(qy, .inr (6, [.int za, .ref qyn, .ref qyt, .ref qyu, .ref qyf, .ref qyr, .ref qyb, .int zs, .ref qyk, .ref qyi, .ref qyx, .int zl, .int zt, .int zg, .int zr, .int zm])), (qyn, .inl (gI G, (45, .inl yn))), (qyt, .inl (gI G, (45, .inl yt))), (qyu, .inl (gI G, (16384, .inl yu))), (qyf, .inl (gI G, (14, .inl yf))), (qyr, .inl (gI G, (14, .inl yr))), (qyb, .inl (gI G, (270, .inl yb))), (qyk, .inl (gI G, (90, .inl yk))), (qyi, .inl (gZ G, (2, .inl yi))), (qyx, .inl (gI G, (60, .inl yx)))]
set_option maxRecDepth 100000 in
theorem k_X6_clearBuffer_inX6 : ∀ w ∈ u_ws RX6 TX6 16, w ∈ wsX6_clearBuffer := by decide +kernel
set_option maxRecDepth 100000 in
theorem k_X6_clearBuffer_f38 : Cond.fieldLink RX6 38 "RehearsalRoomModel" "refusal" "I" ∈ wsX6_clearBuffer := by decide +kernel
set_option maxRecDepth 100000 in
theorem k_X6_clearBuffer_f116 : Cond.fieldLink RX6 116 "RehearsalRoomModel" "length" "I" ∈ wsX6_clearBuffer := by decide +kernel
set_option maxHeartbeats 8000000 in
set_option maxRecDepth 100000 in
theorem cn_X6_clearBuffer (l : Launch) (G : mG) (qy : Nat) (qyn : Nat) (qyt : Nat) (qyu : Nat) (qyf : Nat) (qyr : Nat) (qyb : Nat) (qyk : Nat) (qyi : Nat) (qyx : Nat) (yn : Nat → Int32) (yt : Nat → Int32) (yu : Nat → Int32) (yf : Nat → Int32) (yr : Nat → Int32) (yb : Nat → Int32) (yk : Nat → Int32) (yi : Nat → Int32) (yx : Nat → Int32) (za : Int32) (zs : Int32) (zl : Int32) (zt : Int32) (zg : Int32) (zr : Int32) (zm : Int32) {Q : Int32 → Int32 → Int32 → Prop} (hw : wn_X6_clearBuffer za zl Q) (sz : Nat) :
    Met l yX6_clearBuffer wsX6_clearBuffer ({ frames := 0, cells := 0, slots := 0, locals := 0 } : Room) (va_Pc [.ref qy] (mPre G (w0_X6_clearBuffer G qy qyn qyt qyu qyf qyr qyb qyk qyi qyx yn yt yu yf yr yb yk yi yx za zs zl zt zg zr zm) sz)) (va_Qi (fun (r : Int32) (u : Int32 × Int32) => Q r u.1 u.2) (mBk G (va_A (w0_X6_clearBuffer G qy qyn qyt qyu qyf qyr qyb qyk qyi qyx yn yt yu yf yr yb yk yi yx za zs zl zt zg zr zm) sz) (fun (u : Int32 × Int32) => (w0_X6_clearBuffer G qy qyn qyt qyu qyf qyr qyb qyk qyi qyx yn yt yu yf yr yb yk yi yx u.1 zs u.2 zt zg zr zm))) (va_A (w0_X6_clearBuffer G qy qyn qyt qyu qyf qyr qyb qyk qyi qyx yn yt yu yf yr yb yk yi yx za zs zl zt zg zr zm) sz)) 0 0 (va_A (w0_X6_clearBuffer G qy qyn qyt qyu qyf qyr qyb qyk qyi qyx yn yt yu yf yr yb yk yi yx za zs zl zt zg zr zm) sz) := by
  refine ms_i (cc := cX6_clearBuffer) (maxL := 2) (ret := some .int) (post := (fun (r : Int32) (u : Int32 × Int32) => Q r u.1 u.2)) (w1 := (fun (u : Int32 × Int32) => (w0_X6_clearBuffer G qy qyn qyt qyu qyf qyr qyb qyk qyi qyx yn yt yu yf yr yb yk yi yx u.1 zs u.2 zt zg zr zm))) (by decide) rfl (Nat.le_of_ble_eq_true rfl) ?_ sz
  intro p e s m below meth c A ls H locs hx hb hr hml hown hts hlocks hK hG hP hD hS hA hl
  have hown : s.vm.findClass RX6 = some m.cls := hown
  have hl : lv_has ls 2 [(0, .ref qy)] := hl
  unfold wn_X6_clearBuffer at hw
  refine lv_aload_n hx hb dX6_clearBuffer_0 rfl (lv_at hl 0 rfl) ?_
  refine lv_iconst (v := 0) hx hb dX6_clearBuffer_1 (by decide) ?_
  refine va_put (D := gD G) (ci := 6) (v := .int (0 : Int32)) (ty := .int) (C := RX6) (T := TX6) (N := 16) hx hb hts k_X6_clearBuffer_inX6 tyX6 tyX6_ok nmX6 hown hK hP hD hS 0 rfl rfl 0 (by decide) (hts _ k_X6_clearBuffer_f38) (fun _ h9 => h9) rfl (by decide +kernel) rfl rfl (Nat.le_of_ble_eq_true rfl) dX6_clearBuffer_2 (fun H locs hP hD hS => ?_)
  have hP : va_P (gD G) vwCl (w0_X6_clearBuffer G qy qyn qyt qyu qyf qyr qyb qyk qyi qyx yn yt yu yf yr yb yk yi yx (0 : Int32) zs zl zt zg zr zm) H := hP
  have hD : va_D A (w0_X6_clearBuffer G qy qyn qyt qyu qyf qyr qyb qyk qyi qyx yn yt yu yf yr yb yk yi yx (0 : Int32) zs zl zt zg zr zm) := hD
  refine lv_aload_n hx hb dX6_clearBuffer_5 rfl (lv_at hl 0 rfl) ?_
  refine va_get (D := gD G) (ci := 6) (v := .int zl) (C := RX6) (T := TX6) (N := 16) hx hb hts k_X6_clearBuffer_inX6 hown hK hP 0 rfl rfl 11 (by decide) (hts _ k_X6_clearBuffer_f116) (fun _ h9 => h9) rfl dX6_clearBuffer_6 ?_
  refine lv_istore_n (lv' := [(1, .int zl), (0, .ref qy)]) hx hb dX6_clearBuffer_9 rfl hl (by decide) rfl (fun ls hl => ?_)
  refine lv_aload_n hx hb dX6_clearBuffer_10 rfl (lv_at hl 1 rfl) ?_
  refine lv_iconst (v := 0) hx hb dX6_clearBuffer_11 (by decide) ?_
  refine va_put (D := gD G) (ci := 6) (v := .int (0 : Int32)) (ty := .int) (C := RX6) (T := TX6) (N := 16) hx hb hts k_X6_clearBuffer_inX6 tyX6 tyX6_ok nmX6 hown hK hP hD hS 0 rfl rfl 11 (by decide) (hts _ k_X6_clearBuffer_f116) (fun _ h9 => h9) rfl (by decide +kernel) rfl rfl (Nat.le_of_ble_eq_true rfl) dX6_clearBuffer_12 (fun H locs hP hD hS => ?_)
  have hP : va_P (gD G) vwCl (w0_X6_clearBuffer G qy qyn qyt qyu qyf qyr qyb qyk qyi qyx yn yt yu yf yr yb yk yi yx (0 : Int32) zs (0 : Int32) zt zg zr zm) H := hP
  have hD : va_D A (w0_X6_clearBuffer G qy qyn qyt qyu qyf qyr qyb qyk qyi qyx yn yt yu yf yr yb yk yi yx (0 : Int32) zs (0 : Int32) zt zg zr zm) := hD
  refine lv_iload_n hx hb dX6_clearBuffer_15 rfl (lv_at hl 0 rfl) ?_
  exact fin_i ((0 : Int32), (0 : Int32)) hx hb hr hlocks hK hS hP hD hw dX6_clearBuffer_16

abbrev w0_X6_here (G : mG) (qy : Nat) (qyn : Nat) (qyt : Nat) (qyu : Nat) (qyf : Nat) (qyr : Nat) (qyb : Nat) (qyk : Nat) (qyi : Nat) (qyx : Nat) (yn : Nat → Int32) (yt : Nat → Int32) (yu : Nat → Int32) (yf : Nat → Int32) (yr : Nat → Int32) (yb : Nat → Int32) (yk : Nat → Int32) (yi : Nat → Int32) (yx : Nat → Int32) (za : Int32) (zs : Int32) (zl : Int32) (zt : Int32) (zg : Int32) (zr : Int32) (zm : Int32) : va_W := [(qy, .inr (6, [.int za, .ref qyn, .ref qyt, .ref qyu, .ref qyf, .ref qyr, .ref qyb, .int zs, .ref qyk, .ref qyi, .ref qyx, .int zl, .int zt, .int zg, .int zr, .int zm])), (qyn, .inl (gI G, (45, .inl yn))), (qyt, .inl (gI G, (45, .inl yt))), (qyu, .inl (gI G, (16384, .inl yu))), (qyf, .inl (gI G, (14, .inl yf))), (qyr, .inl (gI G, (14, .inl yr))), (qyb, .inl (gI G, (270, .inl yb))), (qyk, .inl (gI G, (90, .inl yk))), (qyi, .inl (gZ G, (2, .inl yi))), (qyx, .inl (gI G, (60, .inl yx)))]
set_option maxRecDepth 100000 in
theorem k_X6_here_inX6 : ∀ w ∈ u_ws RX6 TX6 16, w ∈ wsX6_here := by decide +kernel
set_option maxRecDepth 100000 in
theorem k_X6_here_f119 : Cond.fieldLink RX6 119 "RehearsalRoomModel" "at" "I" ∈ wsX6_here := by decide +kernel
set_option maxRecDepth 100000 in
theorem k_X6_here_f116 : Cond.fieldLink RX6 116 "RehearsalRoomModel" "length" "I" ∈ wsX6_here := by decide +kernel
set_option maxRecDepth 100000 in
theorem k_X6_here_f35 : Cond.fieldLink RX6 35 "RehearsalRoomModel" "text" "[I" ∈ wsX6_here := by decide +kernel
set_option maxHeartbeats 8000000 in
set_option maxRecDepth 100000 in
theorem cn_X6_here (l : Launch) (G : mG) (qy : Nat) (qyn : Nat) (qyt : Nat) (qyu : Nat) (qyf : Nat) (qyr : Nat) (qyb : Nat) (qyk : Nat) (qyi : Nat) (qyx : Nat) (yn : Nat → Int32) (yt : Nat → Int32) (yu : Nat → Int32) (yf : Nat → Int32) (yr : Nat → Int32) (yb : Nat → Int32) (yk : Nat → Int32) (yi : Nat → Int32) (yx : Nat → Int32) (za : Int32) (zs : Int32) (zl : Int32) (zt : Int32) (zg : Int32) (zr : Int32) (zm : Int32) {Q : Int32 → Prop} (hw : wn_X6_here yx zl zt Q) (sz : Nat) :
    Met l yX6_here wsX6_here ({ frames := 0, cells := 0, slots := 0, locals := 0 } : Room) (va_Pc [.ref qy] (mPre G (w0_X6_here G qy qyn qyt qyu qyf qyr qyb qyk qyi qyx yn yt yu yf yr yb yk yi yx za zs zl zt zg zr zm) sz)) (va_Qi (fun (r : Int32) (u : Unit) => Q r) (mBk G (va_A (w0_X6_here G qy qyn qyt qyu qyf qyr qyb qyk qyi qyx yn yt yu yf yr yb yk yi yx za zs zl zt zg zr zm) sz) (fun (u : Unit) => (w0_X6_here G qy qyn qyt qyu qyf qyr qyb qyk qyi qyx yn yt yu yf yr yb yk yi yx za zs zl zt zg zr zm))) (va_A (w0_X6_here G qy qyn qyt qyu qyf qyr qyb qyk qyi qyx yn yt yu yf yr yb yk yi yx za zs zl zt zg zr zm) sz)) 0 0 (va_A (w0_X6_here G qy qyn qyt qyu qyf qyr qyb qyk qyi qyx yn yt yu yf yr yb yk yi yx za zs zl zt zg zr zm) sz) := by
  refine ms_i (cc := cX6_here) (maxL := 1) (ret := some .int) (post := (fun (r : Int32) (u : Unit) => Q r)) (w1 := (fun (u : Unit) => (w0_X6_here G qy qyn qyt qyu qyf qyr qyb qyk qyi qyx yn yt yu yf yr yb yk yi yx za zs zl zt zg zr zm))) (by decide) rfl (Nat.le_of_ble_eq_true rfl) ?_ sz
  intro p e s m below meth c A ls H locs hx hb hr hml hown hts hlocks hK hG hP hD hS hA hl
  have hown : s.vm.findClass RX6 = some m.cls := hown
  have hl : lv_has ls 1 [(0, .ref qy)] := hl
  unfold wn_X6_here at hw
  refine lv_aload_n hx hb dX6_here_0 rfl (lv_at hl 0 rfl) ?_
  refine va_get (D := gD G) (ci := 6) (v := .int zt) (C := RX6) (T := TX6) (N := 16) hx hb hts k_X6_here_inX6 hown hK hP 0 rfl rfl 12 (by decide) (hts _ k_X6_here_f119) (fun _ h9 => h9) rfl dX6_here_1 ?_
  refine lv_aload_n hx hb dX6_here_4 rfl (lv_at hl 0 rfl) ?_
  refine va_get (D := gD G) (ci := 6) (v := .int zl) (C := RX6) (T := TX6) (N := 16) hx hb hts k_X6_here_inX6 hown hK hP 0 rfl rfl 11 (by decide) (hts _ k_X6_here_f116) (fun _ h9 => h9) rfl dX6_here_5 ?_
  refine lv_icmp_ge (tgt := 23) hx hb dX6_here_8 (by decide) (fun cd1 => ?_) (fun cd1 => ?_)
  · have hw := hw.1 cd1
    refine lv_iconst (v := -1) hx hb dX6_here_23 (by decide) ?_
    exact fin_i () hx hb hr hlocks hK hS hP hD hw dX6_here_24
  · have hw := hw.2 cd1
    refine lv_aload_n hx hb dX6_here_11 rfl (lv_at hl 0 rfl) ?_
    refine va_get (D := gD G) (ci := 6) (v := .ref qyx) (C := RX6) (T := TX6) (N := 16) hx hb hts k_X6_here_inX6 hown hK hP 0 rfl rfl 10 (by decide) (hts _ k_X6_here_f35) (fun _ h9 => h9) rfl dX6_here_12 ?_
    refine lv_aload_n hx hb dX6_here_15 rfl (lv_at hl 0 rfl) ?_
    refine va_get (D := gD G) (ci := 6) (v := .int zt) (C := RX6) (T := TX6) (N := 16) hx hb hts k_X6_here_inX6 hown hK hP 0 rfl rfl 12 (by decide) (hts _ k_X6_here_f119) (fun _ h9 => h9) rfl dX6_here_16 ?_
    obtain ⟨h2, hw⟩ := hw
    refine va_iald hx hb hK hP 9 0 rfl rfl h2 dX6_here_19 ?_
    refine lv_goto (tgt := 24) hx hb dX6_here_20 (by decide) ?_
    exact fin_i () hx hb hr hlocks hK hS hP hD hw dX6_here_24

abbrev w0_X6_take (G : mG) (qy : Nat) (qyn : Nat) (qyt : Nat) (qyu : Nat) (qyf : Nat) (qyr : Nat) (qyb : Nat) (qyk : Nat) (qyi : Nat) (qyx : Nat) (yn : Nat → Int32) (yt : Nat → Int32) (yu : Nat → Int32) (yf : Nat → Int32) (yr : Nat → Int32) (yb : Nat → Int32) (yk : Nat → Int32) (yi : Nat → Int32) (yx : Nat → Int32) (za : Int32) (zs : Int32) (zl : Int32) (zt : Int32) (zg : Int32) (zr : Int32) (zm : Int32) : va_W := [(qy, .inr (6, [.int za, .ref qyn, .ref qyt, .ref qyu, .ref qyf, .ref qyr, .ref qyb, .int zs, .ref qyk, .ref qyi, .ref qyx, .int zl, .int zt, .int zg, .int zr, .int zm])), (qyn, .inl (gI G, (45, .inl yn))), (qyt, .inl (gI G, (45, .inl yt))), (qyu, .inl (gI G, (16384, .inl yu))), (qyf, .inl (gI G, (14, .inl yf))), (qyr, .inl (gI G, (14, .inl yr))), (qyb, .inl (gI G, (270, .inl yb))), (qyk, .inl (gI G, (90, .inl yk))), (qyi, .inl (gZ G, (2, .inl yi))), (qyx, .inl (gI G, (60, .inl yx)))]
set_option maxRecDepth 100000 in
theorem k_X6_take_inX6 : ∀ w ∈ u_ws RX6 TX6 16, w ∈ wsX6_take := by decide +kernel
set_option maxRecDepth 100000 in
theorem k_X6_take_f122 : Cond.fieldLink RX6 122 "RehearsalRoomModel" "good" "Z" ∈ wsX6_take := by decide +kernel
set_option maxRecDepth 100000 in
theorem k_X6_take_f119 : Cond.fieldLink RX6 119 "RehearsalRoomModel" "at" "I" ∈ wsX6_take := by decide +kernel
set_option maxHeartbeats 8000000 in
set_option maxRecDepth 100000 in
theorem cn_X6_take (l : Launch) (G : mG) (qy : Nat) (qyn : Nat) (qyt : Nat) (qyu : Nat) (qyf : Nat) (qyr : Nat) (qyb : Nat) (qyk : Nat) (qyi : Nat) (qyx : Nat) (yn : Nat → Int32) (yt : Nat → Int32) (yu : Nat → Int32) (yf : Nat → Int32) (yr : Nat → Int32) (yb : Nat → Int32) (yk : Nat → Int32) (yi : Nat → Int32) (yx : Nat → Int32) (za : Int32) (zs : Int32) (zl : Int32) (zt : Int32) (zg : Int32) (zr : Int32) (zm : Int32) (a1 : Int32) {Q : Int32 → Int32 → Prop} (hw : wn_X6_take zt zg a1 Q) (sz : Nat) :
    Met l yX6_take wsX6_take ({ frames := 0, cells := 0, slots := 0, locals := 0 } : Room) (va_Pc [.ref qy, .int a1] (mPre G (w0_X6_take G qy qyn qyt qyu qyf qyr qyb qyk qyi qyx yn yt yu yf yr yb yk yi yx za zs zl zt zg zr zm) sz)) (va_Qv (fun (u : Int32 × Int32) => Q u.1 u.2) (mBk G (va_A (w0_X6_take G qy qyn qyt qyu qyf qyr qyb qyk qyi qyx yn yt yu yf yr yb yk yi yx za zs zl zt zg zr zm) sz) (fun (u : Int32 × Int32) => (w0_X6_take G qy qyn qyt qyu qyf qyr qyb qyk qyi qyx yn yt yu yf yr yb yk yi yx za zs zl u.1 u.2 zr zm))) (va_A (w0_X6_take G qy qyn qyt qyu qyf qyr qyb qyk qyi qyx yn yt yu yf yr yb yk yi yx za zs zl zt zg zr zm) sz)) 0 0 (va_A (w0_X6_take G qy qyn qyt qyu qyf qyr qyb qyk qyi qyx yn yt yu yf yr yb yk yi yx za zs zl zt zg zr zm) sz) := by
  refine ms_v (cc := cX6_take) (maxL := 2) (ret := none) (post := (fun (u : Int32 × Int32) => Q u.1 u.2)) (w1 := (fun (u : Int32 × Int32) => (w0_X6_take G qy qyn qyt qyu qyf qyr qyb qyk qyi qyx yn yt yu yf yr yb yk yi yx za zs zl u.1 u.2 zr zm))) (by decide) rfl (Nat.le_of_ble_eq_true rfl) ?_ sz
  intro p e s m below meth c A ls H locs hx hb hr hml hown hts hlocks hK hG hP hD hS hA hl
  have hown : s.vm.findClass RX6 = some m.cls := hown
  have hl : lv_has ls 2 [(0, .ref qy), (1, .int a1)] := hl
  have J37 : ∀ (zt : Int32) (zg : Int32) (x1 : Int32) (y1 : Int32) (y2 : Int32) (H : Heap) (locs : List Loc) (ls : Array Slot), (y2 = 0 ∨ y2 = 1) → va_P (gD G) vwCl (w0_X6_take G qy qyn qyt qyu qyf qyr qyb qyk qyi qyx yn yt yu yf yr yb yk yi yx za zs zl zt zg zr zm) H → va_D A (w0_X6_take G qy qyn qyt qyu qyf qyr qyb qyk qyi qyx yn yt yu yf yr yb yk yi yx za zs zl zt zg zr zm) → va_S A s.heap H locs → lv_has ls 2 [(0, .ref qy), (1, .int x1)] → wj_n_X6_take_37 Q zt zg x1 y1 y2 → W p l e ({ frames := 0, cells := 0, slots := 0, locals := 0 } : Room) s m ([.ref qy, .int a1] : List Value).toArray below meth c H locs 0 0 (MQ below (va_Qv (fun (u : Int32 × Int32) => Q u.1 u.2) (mBk G A (fun (u : Int32 × Int32) => (w0_X6_take G qy qyn qyt qyu qyf qyr qyb qyk qyi qyx yn yt yu yf yr yb yk yi yx za zs zl u.1 u.2 zr zm))) A) ([.ref qy, .int a1] : List Value).toArray s 0 0 A) (F0 m 37 ls [.int y2, .int y1, .ref qy]) := by
    intro zt zg x1 y1 y2 H locs ls hz_y2 hP hD hS hl hw
    unfold wj_n_X6_take_37 at hw
    refine lv_iadd hx hb dX6_take_37 ?_
    refine va_put (D := gD G) (ci := 6) (v := .int (y1 + y2)) (ty := .int) (C := RX6) (T := TX6) (N := 16) hx hb hts k_X6_take_inX6 tyX6 tyX6_ok nmX6 hown hK hP hD hS 0 rfl rfl 12 (by decide) (hts _ k_X6_take_f119) (fun _ h9 => h9) rfl (by decide +kernel) rfl rfl (Nat.le_of_ble_eq_true rfl) dX6_take_38 (fun H locs hP hD hS => ?_)
    have hP : va_P (gD G) vwCl (w0_X6_take G qy qyn qyt qyu qyf qyr qyb qyk qyi qyx yn yt yu yf yr yb yk yi yx za zs zl (y1 + y2) zg zr zm) H := hP
    have hD : va_D A (w0_X6_take G qy qyn qyt qyu qyf qyr qyb qyk qyi qyx yn yt yu yf yr yb yk yi yx za zs zl (y1 + y2) zg zr zm) := hD
    exact fin_v ((y1 + y2), zg) hx hb hr hlocks hK hS hP hD hw dX6_take_41
  have J17 : ∀ (zt : Int32) (zg : Int32) (x1 : Int32) (y1 : Int32) (H : Heap) (locs : List Loc) (ls : Array Slot), (y1 = 0 ∨ y1 = 1) → va_P (gD G) vwCl (w0_X6_take G qy qyn qyt qyu qyf qyr qyb qyk qyi qyx yn yt yu yf yr yb yk yi yx za zs zl zt zg zr zm) H → va_D A (w0_X6_take G qy qyn qyt qyu qyf qyr qyb qyk qyi qyx yn yt yu yf yr yb yk yi yx za zs zl zt zg zr zm) → va_S A s.heap H locs → lv_has ls 2 [(0, .ref qy), (1, .int x1)] → wj_n_X6_take_17 Q zt zg x1 y1 → W p l e ({ frames := 0, cells := 0, slots := 0, locals := 0 } : Room) s m ([.ref qy, .int a1] : List Value).toArray below meth c H locs 0 0 (MQ below (va_Qv (fun (u : Int32 × Int32) => Q u.1 u.2) (mBk G A (fun (u : Int32 × Int32) => (w0_X6_take G qy qyn qyt qyu qyf qyr qyb qyk qyi qyx yn yt yu yf yr yb yk yi yx za zs zl u.1 u.2 zr zm))) A) ([.ref qy, .int a1] : List Value).toArray s 0 0 A) (F0 m 17 ls [.int y1, .ref qy]) := by
    intro zt zg x1 y1 H locs ls hz_y1 hP hD hS hl hw
    unfold wj_n_X6_take_17 at hw
    refine va_put (D := gD G) (ci := 6) (v := .int y1) (ty := .boolean) (C := RX6) (T := TX6) (N := 16) hx hb hts k_X6_take_inX6 tyX6 tyX6_ok nmX6 hown hK hP hD hS 0 rfl rfl 13 (by decide) (hts _ k_X6_take_f122) (fun _ h9 => h9) rfl (by decide +kernel) (nz hz_y1) (fz hz_y1) (Nat.le_of_ble_eq_true rfl) dX6_take_17 (fun H locs hP hD hS => ?_)
    have hP : va_P (gD G) vwCl (w0_X6_take G qy qyn qyt qyu qyf qyr qyb qyk qyi qyx yn yt yu yf yr yb yk yi yx za zs zl zt y1 zr zm) H := hP
    have hD : va_D A (w0_X6_take G qy qyn qyt qyu qyf qyr qyb qyk qyi qyx yn yt yu yf yr yb yk yi yx za zs zl zt y1 zr zm) := hD
    refine lv_aload_n hx hb dX6_take_20 rfl (lv_at hl 0 rfl) ?_
    refine lv_dup hx hb dX6_take_21 rfl ?_
    refine va_get (D := gD G) (ci := 6) (v := .int zt) (C := RX6) (T := TX6) (N := 16) hx hb hts k_X6_take_inX6 hown hK hP 0 rfl rfl 12 (by decide) (hts _ k_X6_take_f119) (fun _ h9 => h9) rfl dX6_take_22 ?_
    refine lv_aload_n hx hb dX6_take_25 rfl (lv_at hl 0 rfl) ?_
    refine va_get (D := gD G) (ci := 6) (v := .int y1) (C := RX6) (T := TX6) (N := 16) hx hb hts k_X6_take_inX6 hown hK hP 0 rfl rfl 13 (by decide) (hts _ k_X6_take_f122) (fun _ h9 => h9) rfl dX6_take_26 ?_
    refine lv_if_eq (tgt := 36) hx hb dX6_take_29 (by decide) (fun cd2 => ?_) (fun cd2 => ?_)
    · have hw := hw.1 cd2
      refine lv_iconst (v := 0) hx hb dX6_take_36 (by decide) ?_
      exact J37 zt y1 x1 zt (0 : Int32) _ _ _ (Or.inl rfl) hP hD hS hl hw
    · have hw := hw.2 cd2
      refine lv_iconst (v := 1) hx hb dX6_take_32 (by decide) ?_
      refine lv_goto (tgt := 37) hx hb dX6_take_33 (by decide) ?_
      exact J37 zt y1 x1 zt (1 : Int32) _ _ _ (Or.inr rfl) hP hD hS hl hw
  have J16 : ∀ (zt : Int32) (zg : Int32) (x1 : Int32) (H : Heap) (locs : List Loc) (ls : Array Slot), va_P (gD G) vwCl (w0_X6_take G qy qyn qyt qyu qyf qyr qyb qyk qyi qyx yn yt yu yf yr yb yk yi yx za zs zl zt zg zr zm) H → va_D A (w0_X6_take G qy qyn qyt qyu qyf qyr qyb qyk qyi qyx yn yt yu yf yr yb yk yi yx za zs zl zt zg zr zm) → va_S A s.heap H locs → lv_has ls 2 [(0, .ref qy), (1, .int x1)] → wj_n_X6_take_16 Q zt zg x1 → W p l e ({ frames := 0, cells := 0, slots := 0, locals := 0 } : Room) s m ([.ref qy, .int a1] : List Value).toArray below meth c H locs 0 0 (MQ below (va_Qv (fun (u : Int32 × Int32) => Q u.1 u.2) (mBk G A (fun (u : Int32 × Int32) => (w0_X6_take G qy qyn qyt qyu qyf qyr qyb qyk qyi qyx yn yt yu yf yr yb yk yi yx za zs zl u.1 u.2 zr zm))) A) ([.ref qy, .int a1] : List Value).toArray s 0 0 A) (F0 m 16 ls [.ref qy]) := by
    intro zt zg x1 H locs ls hP hD hS hl hw
    unfold wj_n_X6_take_16 at hw
    refine lv_iconst (v := 0) hx hb dX6_take_16 (by decide) ?_
    exact J17 zt zg x1 (0 : Int32) _ _ _ (Or.inl rfl) hP hD hS hl hw
  unfold wn_X6_take at hw
  refine lv_aload_n hx hb dX6_take_0 rfl (lv_at hl 0 rfl) ?_
  refine lv_aload_n hx hb dX6_take_1 rfl (lv_at hl 0 rfl) ?_
  refine va_get (D := gD G) (ci := 6) (v := .int zg) (C := RX6) (T := TX6) (N := 16) hx hb hts k_X6_take_inX6 hown hK hP 0 rfl rfl 13 (by decide) (hts _ k_X6_take_f122) (fun _ h9 => h9) rfl dX6_take_2 ?_
  refine lv_if_eq (tgt := 16) hx hb dX6_take_5 (by decide) (fun cd1 => ?_) (fun cd1 => ?_)
  · have hw := hw.1 cd1
    exact J16 zt zg a1 _ _ _ hP hD hS hl hw
  · have hw := hw.2 cd1
    refine lv_iload_n hx hb dX6_take_8 rfl (lv_at hl 1 rfl) ?_
    refine lv_if_eq (tgt := 16) hx hb dX6_take_9 (by decide) (fun cd3 => ?_) (fun cd3 => ?_)
    · have hw := hw.1 cd3
      exact J16 zt zg a1 _ _ _ hP hD hS hl hw
    · have hw := hw.2 cd3
      refine lv_iconst (v := 1) hx hb dX6_take_12 (by decide) ?_
      refine lv_goto (tgt := 17) hx hb dX6_take_13 (by decide) ?_
      exact J17 zt zg a1 (1 : Int32) _ _ _ (Or.inr rfl) hP hD hS hl hw

abbrev w0_X6_number (G : mG) (qy : Nat) (qyn : Nat) (qyt : Nat) (qyu : Nat) (qyf : Nat) (qyr : Nat) (qyb : Nat) (qyk : Nat) (qyi : Nat) (qyx : Nat) (yn : Nat → Int32) (yt : Nat → Int32) (yu : Nat → Int32) (yf : Nat → Int32) (yr : Nat → Int32) (yb : Nat → Int32) (yk : Nat → Int32) (yi : Nat → Int32) (yx : Nat → Int32) (za : Int32) (zs : Int32) (zl : Int32) (zt : Int32) (zg : Int32) (zr : Int32) (zm : Int32) : va_W := [(qy, .inr (6, [.int za, .ref qyn, .ref qyt, .ref qyu, .ref qyf, .ref qyr, .ref qyb, .int zs, .ref qyk, .ref qyi, .ref qyx, .int zl, .int zt, .int zg, .int zr, .int zm])), (qyn, .inl (gI G, (45, .inl yn))), (qyt, .inl (gI G, (45, .inl yt))), (qyu, .inl (gI G, (16384, .inl yu))), (qyf, .inl (gI G, (14, .inl yf))), (qyr, .inl (gI G, (14, .inl yr))), (qyb, .inl (gI G, (270, .inl yb))), (qyk, .inl (gI G, (90, .inl yk))), (qyi, .inl (gZ G, (2, .inl yi))), (qyx, .inl (gI G, (60, .inl yx)))]
set_option maxRecDepth 100000 in
theorem k_X6_number_inX6 : ∀ w ∈ u_ws RX6 TX6 16, w ∈ wsX6_number := by decide +kernel
set_option maxRecDepth 100000 in
theorem k_X6_number_f122 : Cond.fieldLink RX6 122 "RehearsalRoomModel" "good" "Z" ∈ wsX6_number := by decide +kernel
set_option maxRecDepth 100000 in
theorem k_X6_number_c129 : Cond.constantLong RX6 129 (9) ∈ wsX6_number := by decide +kernel
set_option maxRecDepth 100000 in
theorem k_X6_number_f119 : Cond.fieldLink RX6 119 "RehearsalRoomModel" "at" "I" ∈ wsX6_number := by decide +kernel
set_option maxHeartbeats 8000000 in
set_option maxRecDepth 100000 in
theorem cn_X6_number (l : Launch) (G : mG) (qy : Nat) (qyn : Nat) (qyt : Nat) (qyu : Nat) (qyf : Nat) (qyr : Nat) (qyb : Nat) (qyk : Nat) (qyi : Nat) (qyx : Nat) (yn : Nat → Int32) (yt : Nat → Int32) (yu : Nat → Int32) (yf : Nat → Int32) (yr : Nat → Int32) (yb : Nat → Int32) (yk : Nat → Int32) (yi : Nat → Int32) (yx : Nat → Int32) (za : Int32) (zs : Int32) (zl : Int32) (zt : Int32) (zg : Int32) (zr : Int32) (zm : Int32) (a1 : Int32) (a2 : Int32) {Q : Int32 → Int32 → Int32 → Prop} (hw : wn_X6_number yx zl zt zg a1 a2 Q) (sz : Nat) :
    Met l yX6_number wsX6_number ({ frames := 1, cells := 0, slots := 0, locals := 25 } : Room) (va_Pc [.ref qy, .int a1, .int a2] (mPre G (w0_X6_number G qy qyn qyt qyu qyf qyr qyb qyk qyi qyx yn yt yu yf yr yb yk yi yx za zs zl zt zg zr zm) sz)) (va_Qi (fun (r : Int32) (u : Int32 × Int32) => Q r u.1 u.2) (mBk G (va_A (w0_X6_number G qy qyn qyt qyu qyf qyr qyb qyk qyi qyx yn yt yu yf yr yb yk yi yx za zs zl zt zg zr zm) sz) (fun (u : Int32 × Int32) => (w0_X6_number G qy qyn qyt qyu qyf qyr qyb qyk qyi qyx yn yt yu yf yr yb yk yi yx za zs zl u.1 u.2 zr zm))) (va_A (w0_X6_number G qy qyn qyt qyu qyf qyr qyb qyk qyi qyx yn yt yu yf yr yb yk yi yx za zs zl zt zg zr zm) sz)) 0 0 (va_A (w0_X6_number G qy qyn qyt qyu qyf qyr qyb qyk qyi qyx yn yt yu yf yr yb yk yi yx za zs zl zt zg zr zm) sz) := by
  refine ms_i (cc := cX6_number) (maxL := 6) (ret := some .int) (post := (fun (r : Int32) (u : Int32 × Int32) => Q r u.1 u.2)) (w1 := (fun (u : Int32 × Int32) => (w0_X6_number G qy qyn qyt qyu qyf qyr qyb qyk qyi qyx yn yt yu yf yr yb yk yi yx za zs zl u.1 u.2 zr zm))) (by decide) rfl (Nat.le_of_ble_eq_true rfl) ?_ sz
  intro p e s m below meth c A ls H locs hx hb hr hml hown hts hlocks hK hG hP hD hS hA hl
  have hown : s.vm.findClass RX6 = some m.cls := hown
  have hl : lv_has ls 6 [(0, .ref qy), (1, .int a1), (2, .int a2)] := hl
  have J132 : ∀ (k55 : Int32 → Int32 → Int32 → Int32 → Int32 → Int32 → Prop) (hk55 : ∀ (zt : Int32) (zg : Int32) (x1 : Int32) (x2 : Int32) (x3 : Int32) (x4 : Int32) (H : Heap) (locs : List Loc) (ls : Array Slot), (x4 = 0 ∨ x4 = 1) → va_P (gD G) vwCl (w0_X6_number G qy qyn qyt qyu qyf qyr qyb qyk qyi qyx yn yt yu yf yr yb yk yi yx za zs zl zt zg zr zm) H → va_D A (w0_X6_number G qy qyn qyt qyu qyf qyr qyb qyk qyi qyx yn yt yu yf yr yb yk yi yx za zs zl zt zg zr zm) → va_S A s.heap H locs → lv_has ls 6 [(0, .ref qy), (1, .int x1), (2, .int x2), (3, .int x3), (4, .int x4)] → k55 zt zg x1 x2 x3 x4 → W p l e ({ frames := 1, cells := 0, slots := 0, locals := 25 } : Room) s m ([.ref qy, .int a1, .int a2] : List Value).toArray below meth c H locs 0 0 (MQ below (va_Qi (fun (r : Int32) (u : Int32 × Int32) => Q r u.1 u.2) (mBk G A (fun (u : Int32 × Int32) => (w0_X6_number G qy qyn qyt qyu qyf qyr qyb qyk qyi qyx yn yt yu yf yr yb yk yi yx za zs zl u.1 u.2 zr zm))) A) ([.ref qy, .int a1, .int a2] : List Value).toArray s 0 0 A) (F0 m 55 ls [])) (zt : Int32) (zg : Int32) (x1 : Int32) (x2 : Int32) (x3 : Int32) (x4 : Int32) (x5 : Int32) (y1 : Int32) (y2 : Int32) (H : Heap) (locs : List Loc) (ls : Array Slot), (x4 = 0 ∨ x4 = 1) → (y2 = 0 ∨ y2 = 1) → va_P (gD G) vwCl (w0_X6_number G qy qyn qyt qyu qyf qyr qyb qyk qyi qyx yn yt yu yf yr yb yk yi yx za zs zl zt zg zr zm) H → va_D A (w0_X6_number G qy qyn qyt qyu qyf qyr qyb qyk qyi qyx yn yt yu yf yr yb yk yi yx za zs zl zt zg zr zm) → va_S A s.heap H locs → lv_has ls 6 [(0, .ref qy), (1, .int x1), (2, .int x2), (3, .int x3), (4, .int x4), (5, .int x5)] → wj_n_X6_number_132 yx zl Q k55 zt zg x1 x2 x3 x4 x5 y1 y2 → W p l e ({ frames := 1, cells := 0, slots := 0, locals := 25 } : Room) s m ([.ref qy, .int a1, .int a2] : List Value).toArray below meth c H locs 0 0 (MQ below (va_Qi (fun (r : Int32) (u : Int32 × Int32) => Q r u.1 u.2) (mBk G A (fun (u : Int32 × Int32) => (w0_X6_number G qy qyn qyt qyu qyf qyr qyb qyk qyi qyx yn yt yu yf yr yb yk yi yx za zs zl u.1 u.2 zr zm))) A) ([.ref qy, .int a1, .int a2] : List Value).toArray s 0 0 A) (F0 m 132 ls [.int y2, .int y1, .ref qy]) := by
    intro k55 hk55 zt zg x1 x2 x3 x4 x5 y1 y2 H locs ls hz_x4 hz_y2 hP hD hS hl hw
    unfold wj_n_X6_number_132 at hw
    refine lv_iadd hx hb dX6_number_132 ?_
    refine va_put (D := gD G) (ci := 6) (v := .int (y1 + y2)) (ty := .int) (C := RX6) (T := TX6) (N := 16) hx hb hts k_X6_number_inX6 tyX6 tyX6_ok nmX6 hown hK hP hD hS 0 rfl rfl 12 (by decide) (hts _ k_X6_number_f119) (fun _ h9 => h9) rfl (by decide +kernel) rfl rfl (Nat.le_of_ble_eq_true rfl) dX6_number_133 (fun H locs hP hD hS => ?_)
    have hP : va_P (gD G) vwCl (w0_X6_number G qy qyn qyt qyu qyf qyr qyb qyk qyi qyx yn yt yu yf yr yb yk yi yx za zs zl (y1 + y2) zg zr zm) H := hP
    have hD : va_D A (w0_X6_number G qy qyn qyt qyu qyf qyr qyb qyk qyi qyx yn yt yu yf yr yb yk yi yx za zs zl (y1 + y2) zg zr zm) := hD
    refine lv_goto (tgt := 55) hx hb dX6_number_136 (by decide) ?_
    exact hk55 (y1 + y2) zg x1 x2 x3 x4 _ _ _ hz_x4 hP hD hS (lv_sub hl [0, 1, 2, 3, 4] rfl) hw
  have J116 : ∀ (k55 : Int32 → Int32 → Int32 → Int32 → Int32 → Int32 → Prop) (hk55 : ∀ (zt : Int32) (zg : Int32) (x1 : Int32) (x2 : Int32) (x3 : Int32) (x4 : Int32) (H : Heap) (locs : List Loc) (ls : Array Slot), (x4 = 0 ∨ x4 = 1) → va_P (gD G) vwCl (w0_X6_number G qy qyn qyt qyu qyf qyr qyb qyk qyi qyx yn yt yu yf yr yb yk yi yx za zs zl zt zg zr zm) H → va_D A (w0_X6_number G qy qyn qyt qyu qyf qyr qyb qyk qyi qyx yn yt yu yf yr yb yk yi yx za zs zl zt zg zr zm) → va_S A s.heap H locs → lv_has ls 6 [(0, .ref qy), (1, .int x1), (2, .int x2), (3, .int x3), (4, .int x4)] → k55 zt zg x1 x2 x3 x4 → W p l e ({ frames := 1, cells := 0, slots := 0, locals := 25 } : Room) s m ([.ref qy, .int a1, .int a2] : List Value).toArray below meth c H locs 0 0 (MQ below (va_Qi (fun (r : Int32) (u : Int32 × Int32) => Q r u.1 u.2) (mBk G A (fun (u : Int32 × Int32) => (w0_X6_number G qy qyn qyt qyu qyf qyr qyb qyk qyi qyx yn yt yu yf yr yb yk yi yx za zs zl u.1 u.2 zr zm))) A) ([.ref qy, .int a1, .int a2] : List Value).toArray s 0 0 A) (F0 m 55 ls [])) (zt : Int32) (zg : Int32) (x1 : Int32) (x2 : Int32) (x3 : Int32) (x4 : Int32) (x5 : Int32) (y0 : Int32) (H : Heap) (locs : List Loc) (ls : Array Slot), (x4 = 0 ∨ x4 = 1) → va_P (gD G) vwCl (w0_X6_number G qy qyn qyt qyu qyf qyr qyb qyk qyi qyx yn yt yu yf yr yb yk yi yx za zs zl zt zg zr zm) H → va_D A (w0_X6_number G qy qyn qyt qyu qyf qyr qyb qyk qyi qyx yn yt yu yf yr yb yk yi yx za zs zl zt zg zr zm) → va_S A s.heap H locs → lv_has ls 6 [(0, .ref qy), (1, .int x1), (2, .int x2), (3, .int x3), (4, .int x4), (5, .int x5)] → wj_n_X6_number_116 yx zl Q k55 zt zg x1 x2 x3 x4 x5 y0 → W p l e ({ frames := 1, cells := 0, slots := 0, locals := 25 } : Room) s m ([.ref qy, .int a1, .int a2] : List Value).toArray below meth c H locs 0 0 (MQ below (va_Qi (fun (r : Int32) (u : Int32 × Int32) => Q r u.1 u.2) (mBk G A (fun (u : Int32 × Int32) => (w0_X6_number G qy qyn qyt qyu qyf qyr qyb qyk qyi qyx yn yt yu yf yr yb yk yi yx za zs zl u.1 u.2 zr zm))) A) ([.ref qy, .int a1, .int a2] : List Value).toArray s 0 0 A) (F0 m 116 ls [.int y0]) := by
    intro k55 hk55 zt zg x1 x2 x3 x4 x5 y0 H locs ls hz_x4 hP hD hS hl hw
    unfold wj_n_X6_number_116 at hw
    refine lv_istore_n (lv' := [(3, .int y0), (0, .ref qy), (1, .int x1), (2, .int x2), (4, .int x4), (5, .int x5)]) hx hb dX6_number_116 rfl hl (by decide) rfl (fun ls hl => ?_)
    refine lv_aload_n hx hb dX6_number_117 rfl (lv_at hl 1 rfl) ?_
    refine lv_dup hx hb dX6_number_118 rfl ?_
    refine va_get (D := gD G) (ci := 6) (v := .int zt) (C := RX6) (T := TX6) (N := 16) hx hb hts k_X6_number_inX6 hown hK hP 0 rfl rfl 12 (by decide) (hts _ k_X6_number_f119) (fun _ h9 => h9) rfl dX6_number_119 ?_
    refine lv_iload hx hb dX6_number_122 (lv_at hl 4 rfl) ?_
    refine lv_if_eq (tgt := 131) hx hb dX6_number_124 (by decide) (fun cd11 => ?_) (fun cd11 => ?_)
    · have hw := hw.1 cd11
      refine lv_iconst (v := 0) hx hb dX6_number_131 (by decide) ?_
      exact J132 k55 hk55 zt zg x1 x2 y0 x4 x5 zt (0 : Int32) _ _ _ hz_x4 (Or.inl rfl) hP hD hS (lv_sub hl [1, 2, 3, 0, 4, 5] rfl) hw
    · have hw := hw.2 cd11
      refine lv_iconst (v := 1) hx hb dX6_number_127 (by decide) ?_
      refine lv_goto (tgt := 132) hx hb dX6_number_128 (by decide) ?_
      exact J132 k55 hk55 zt zg x1 x2 y0 x4 x5 zt (1 : Int32) _ _ _ hz_x4 (Or.inr rfl) hP hD hS (lv_sub hl [1, 2, 3, 0, 4, 5] rfl) hw
  have J98 : ∀ (k55 : Int32 → Int32 → Int32 → Int32 → Int32 → Int32 → Prop) (hk55 : ∀ (zt : Int32) (zg : Int32) (x1 : Int32) (x2 : Int32) (x3 : Int32) (x4 : Int32) (H : Heap) (locs : List Loc) (ls : Array Slot), (x4 = 0 ∨ x4 = 1) → va_P (gD G) vwCl (w0_X6_number G qy qyn qyt qyu qyf qyr qyb qyk qyi qyx yn yt yu yf yr yb yk yi yx za zs zl zt zg zr zm) H → va_D A (w0_X6_number G qy qyn qyt qyu qyf qyr qyb qyk qyi qyx yn yt yu yf yr yb yk yi yx za zs zl zt zg zr zm) → va_S A s.heap H locs → lv_has ls 6 [(0, .ref qy), (1, .int x1), (2, .int x2), (3, .int x3), (4, .int x4)] → k55 zt zg x1 x2 x3 x4 → W p l e ({ frames := 1, cells := 0, slots := 0, locals := 25 } : Room) s m ([.ref qy, .int a1, .int a2] : List Value).toArray below meth c H locs 0 0 (MQ below (va_Qi (fun (r : Int32) (u : Int32 × Int32) => Q r u.1 u.2) (mBk G A (fun (u : Int32 × Int32) => (w0_X6_number G qy qyn qyt qyu qyf qyr qyb qyk qyi qyx yn yt yu yf yr yb yk yi yx za zs zl u.1 u.2 zr zm))) A) ([.ref qy, .int a1, .int a2] : List Value).toArray s 0 0 A) (F0 m 55 ls [])) (zt : Int32) (zg : Int32) (x1 : Int32) (x2 : Int32) (x3 : Int32) (x4 : Int32) (x5 : Int32) (y0 : Int32) (H : Heap) (locs : List Loc) (ls : Array Slot), (x4 = 0 ∨ x4 = 1) → (y0 = 0 ∨ y0 = 1) → va_P (gD G) vwCl (w0_X6_number G qy qyn qyt qyu qyf qyr qyb qyk qyi qyx yn yt yu yf yr yb yk yi yx za zs zl zt zg zr zm) H → va_D A (w0_X6_number G qy qyn qyt qyu qyf qyr qyb qyk qyi qyx yn yt yu yf yr yb yk yi yx za zs zl zt zg zr zm) → va_S A s.heap H locs → lv_has ls 6 [(0, .ref qy), (1, .int x1), (2, .int x2), (3, .int x3), (4, .int x4), (5, .int x5)] → wj_n_X6_number_98 yx zl Q k55 zt zg x1 x2 x3 x4 x5 y0 → W p l e ({ frames := 1, cells := 0, slots := 0, locals := 25 } : Room) s m ([.ref qy, .int a1, .int a2] : List Value).toArray below meth c H locs 0 0 (MQ below (va_Qi (fun (r : Int32) (u : Int32 × Int32) => Q r u.1 u.2) (mBk G A (fun (u : Int32 × Int32) => (w0_X6_number G qy qyn qyt qyu qyf qyr qyb qyk qyi qyx yn yt yu yf yr yb yk yi yx za zs zl u.1 u.2 zr zm))) A) ([.ref qy, .int a1, .int a2] : List Value).toArray s 0 0 A) (F0 m 98 ls [.int y0]) := by
    intro k55 hk55 zt zg x1 x2 x3 x4 x5 y0 H locs ls hz_x4 hz_y0 hP hD hS hl hw
    unfold wj_n_X6_number_98 at hw
    refine lv_istore (lv' := [(4, .int y0), (0, .ref qy), (1, .int x1), (2, .int x2), (3, .int x3), (5, .int x5)]) hx hb dX6_number_98 hl (by decide) rfl (fun ls hl => ?_)
    refine lv_iload hx hb dX6_number_100 (lv_at hl 0 rfl) ?_
    refine lv_if_eq (tgt := 115) hx hb dX6_number_102 (by decide) (fun cd10 => ?_) (fun cd10 => ?_)
    · have hw := hw.1 cd10
      refine lv_iload_n hx hb dX6_number_115 rfl (lv_at hl 4 rfl) ?_
      exact J116 k55 hk55 zt zg x1 x2 x3 y0 x5 x3 _ _ _ hz_y0 hP hD hS (lv_sub hl [1, 2, 3, 4, 0, 5] rfl) hw
    · have hw := hw.2 cd10
      refine lv_bipush (v := 10) hx hb dX6_number_105 (by decide) ?_
      refine lv_iload_n hx hb dX6_number_107 rfl (lv_at hl 4 rfl) ?_
      refine lv_imul hx hb dX6_number_108 ?_
      refine lv_iload hx hb dX6_number_109 (lv_at hl 5 rfl) ?_
      refine lv_iadd hx hb dX6_number_111 ?_
      refine lv_goto (tgt := 116) hx hb dX6_number_112 (by decide) ?_
      exact J116 k55 hk55 zt zg x1 x2 x3 y0 x5 (((10 : Int32) * x3) + x5) _ _ _ hz_y0 hP hD hS (lv_sub hl [1, 2, 3, 4, 0, 5] rfl) hw
  have J97 : ∀ (k55 : Int32 → Int32 → Int32 → Int32 → Int32 → Int32 → Prop) (hk55 : ∀ (zt : Int32) (zg : Int32) (x1 : Int32) (x2 : Int32) (x3 : Int32) (x4 : Int32) (H : Heap) (locs : List Loc) (ls : Array Slot), (x4 = 0 ∨ x4 = 1) → va_P (gD G) vwCl (w0_X6_number G qy qyn qyt qyu qyf qyr qyb qyk qyi qyx yn yt yu yf yr yb yk yi yx za zs zl zt zg zr zm) H → va_D A (w0_X6_number G qy qyn qyt qyu qyf qyr qyb qyk qyi qyx yn yt yu yf yr yb yk yi yx za zs zl zt zg zr zm) → va_S A s.heap H locs → lv_has ls 6 [(0, .ref qy), (1, .int x1), (2, .int x2), (3, .int x3), (4, .int x4)] → k55 zt zg x1 x2 x3 x4 → W p l e ({ frames := 1, cells := 0, slots := 0, locals := 25 } : Room) s m ([.ref qy, .int a1, .int a2] : List Value).toArray below meth c H locs 0 0 (MQ below (va_Qi (fun (r : Int32) (u : Int32 × Int32) => Q r u.1 u.2) (mBk G A (fun (u : Int32 × Int32) => (w0_X6_number G qy qyn qyt qyu qyf qyr qyb qyk qyi qyx yn yt yu yf yr yb yk yi yx za zs zl u.1 u.2 zr zm))) A) ([.ref qy, .int a1, .int a2] : List Value).toArray s 0 0 A) (F0 m 55 ls [])) (zt : Int32) (zg : Int32) (x1 : Int32) (x2 : Int32) (x3 : Int32) (x4 : Int32) (x5 : Int32) (H : Heap) (locs : List Loc) (ls : Array Slot), (x4 = 0 ∨ x4 = 1) → va_P (gD G) vwCl (w0_X6_number G qy qyn qyt qyu qyf qyr qyb qyk qyi qyx yn yt yu yf yr yb yk yi yx za zs zl zt zg zr zm) H → va_D A (w0_X6_number G qy qyn qyt qyu qyf qyr qyb qyk qyi qyx yn yt yu yf yr yb yk yi yx za zs zl zt zg zr zm) → va_S A s.heap H locs → lv_has ls 6 [(0, .ref qy), (1, .int x1), (2, .int x2), (3, .int x3), (4, .int x4), (5, .int x5)] → wj_n_X6_number_97 yx zl Q k55 zt zg x1 x2 x3 x4 x5 → W p l e ({ frames := 1, cells := 0, slots := 0, locals := 25 } : Room) s m ([.ref qy, .int a1, .int a2] : List Value).toArray below meth c H locs 0 0 (MQ below (va_Qi (fun (r : Int32) (u : Int32 × Int32) => Q r u.1 u.2) (mBk G A (fun (u : Int32 × Int32) => (w0_X6_number G qy qyn qyt qyu qyf qyr qyb qyk qyi qyx yn yt yu yf yr yb yk yi yx za zs zl u.1 u.2 zr zm))) A) ([.ref qy, .int a1, .int a2] : List Value).toArray s 0 0 A) (F0 m 97 ls []) := by
    intro k55 hk55 zt zg x1 x2 x3 x4 x5 H locs ls hz_x4 hP hD hS hl hw
    unfold wj_n_X6_number_97 at hw
    refine lv_iconst (v := 0) hx hb dX6_number_97 (by decide) ?_
    exact J98 k55 hk55 zt zg x1 x2 x3 x4 x5 (0 : Int32) _ _ _ hz_x4 (Or.inl rfl) hP hD hS hl hw
  have J55 : ∀ (n : Nat) (zt : Int32) (zg : Int32) (x1 : Int32) (x2 : Int32) (x3 : Int32) (x4 : Int32) (H : Heap) (locs : List Loc) (ls : Array Slot), (x4 = 0 ∨ x4 = 1) → va_P (gD G) vwCl (w0_X6_number G qy qyn qyt qyu qyf qyr qyb qyk qyi qyx yn yt yu yf yr yb yk yi yx za zs zl zt zg zr zm) H → va_D A (w0_X6_number G qy qyn qyt qyu qyf qyr qyb qyk qyi qyx yn yt yu yf yr yb yk yi yx za zs zl zt zg zr zm) → va_S A s.heap H locs → lv_has ls 6 [(0, .ref qy), (1, .int x1), (2, .int x2), (3, .int x3), (4, .int x4)] → wl_n_X6_number_55 yx zl Q n zt zg x1 x2 x3 x4 → W p l e ({ frames := 1, cells := 0, slots := 0, locals := 25 } : Room) s m ([.ref qy, .int a1, .int a2] : List Value).toArray below meth c H locs 0 0 (MQ below (va_Qi (fun (r : Int32) (u : Int32 × Int32) => Q r u.1 u.2) (mBk G A (fun (u : Int32 × Int32) => (w0_X6_number G qy qyn qyt qyu qyf qyr qyb qyk qyi qyx yn yt yu yf yr yb yk yi yx za zs zl u.1 u.2 zr zm))) A) ([.ref qy, .int a1, .int a2] : List Value).toArray s 0 0 A) (F0 m 55 ls []) := by
    intro n
    induction n with
    | zero => intro zt zg x1 x2 x3 x4 H locs ls hz_x4 hP hD hS hl hw; exact False.elim hw
    | succ n ih =>
      intro zt zg x1 x2 x3 x4 H locs ls hz_x4 hP hD hS hl hw
      rw [wl_n_X6_number_55] at hw
      refine lv_iload hx hb dX6_number_55 (lv_at hl 4 rfl) ?_
      refine lv_if_eq (tgt := 139) hx hb dX6_number_57 (by decide) (fun cd6 => ?_) (fun cd6 => ?_)
      · have hw := hw.1 cd6
        refine lv_iload_n hx hb dX6_number_139 rfl (lv_at hl 3 rfl) ?_
        exact fin_i (zt, zg) hx hb hr hlocks hK hS hP hD hw dX6_number_140
      · have hw := hw.2 cd6
        refine lv_aload_n hx hb dX6_number_60 rfl (lv_at hl 0 rfl) ?_
        refine kcR_i (kr_V [] ⟨hx, hb, hml, hown, hts⟩ (cn_X6_here l G qy qyn qyt qyu qyf qyr qyb qyk qyi qyx yn yt yu yf yr yb yk yi yx za zs zl zt zg zr zm hw H.size) (cwV 0 hts gX6_number_X6_here rfl rfl rfl (by decide +kernel) ⟨Nat.le_of_ble_eq_true rfl, Nat.le_of_ble_eq_true rfl⟩) hK hG hP hD hS hA [0, 1, 2, 3, 4, 5, 6, 7, 8, 9] rfl rfl 6 0 rfl rfl rfl hl.1 rfl (Nat.le_of_ble_eq_true rfl) dX6_number_61 ⟨Nat.le_of_ble_eq_true rfl, Nat.le_of_ble_eq_true rfl⟩) hP hD hS hA [0, 1, 2, 3, 4, 5, 6, 7, 8, 9] rfl (fun r7 u H locs hw hP hS => ?_)
        try dsimp only at hw
        refine lv_bipush (v := 48) hx hb dX6_number_64 (by decide) ?_
        refine lv_isub hx hb dX6_number_66 ?_
        refine lv_istore (lv' := [(5, .int (r7 - (48 : Int32))), (0, .ref qy), (1, .int x1), (2, .int x2), (3, .int x3), (4, .int x4)]) hx hb dX6_number_67 hl (by decide) rfl (fun ls hl => ?_)
        refine lv_iload hx hb dX6_number_69 (lv_at hl 0 rfl) ?_
        refine lv_i2l hx hb dX6_number_71 rfl ?_
        refine lv_lconst (v := 0) hx hb dX6_number_72 (by decide) ?_
        refine lv_ldc2 (v := 9) hx hb hown (hts _ k_X6_number_c129) dX6_number_73 ?_
        refine kcR_i (kr_S [] ⟨hx, hb, hml, hown, hts⟩ (cn_X6_in l G ((r7 - (48 : Int32)).toInt64) (0 : Int64) (9 : Int64) hw H.size) (va_cwS 3 hts gX6_number_X6_in rfl rfl rfl (by decide +kernel) ⟨Nat.le_of_ble_eq_true rfl, Nat.le_of_ble_eq_true rfl⟩) hK hG hP hD hS hA [] rfl rfl rfl hl.1 rfl (Nat.le_of_ble_eq_true rfl) dX6_number_76 ⟨Nat.le_of_ble_eq_true rfl, Nat.le_of_ble_eq_true rfl⟩) hP hD hS hA [] rfl (fun r8 u H locs hw hP hS => ?_)
        try dsimp only at hw
        obtain ⟨hz_r8, hw⟩ := hw
        refine lv_if_eq (tgt := 97) hx hb dX6_number_79 (by decide) (fun cd9 => ?_) (fun cd9 => ?_)
        · have hw := hw.1 cd9
          exact J97 (fun (z0 : Int32) (z1 : Int32) (z2 : Int32) (z3 : Int32) (z4 : Int32) (z5 : Int32) => wl_n_X6_number_55 yx zl Q n z0 z1 z2 z3 z4 z5) ih zt zg x1 x2 x3 x4 (r7 - (48 : Int32)) _ _ _ hz_x4 hP hD hS (lv_sub hl [1, 2, 3, 4, 5, 0] rfl) hw
        · have hw := hw.2 cd9
          refine lv_bipush (v := 10) hx hb dX6_number_82 (by decide) ?_
          refine lv_iload_n hx hb dX6_number_84 rfl (lv_at hl 4 rfl) ?_
          refine lv_imul hx hb dX6_number_85 ?_
          refine lv_iload hx hb dX6_number_86 (lv_at hl 0 rfl) ?_
          refine lv_iadd hx hb dX6_number_88 ?_
          refine lv_iload_n hx hb dX6_number_89 rfl (lv_at hl 3 rfl) ?_
          refine lv_icmp_gt (tgt := 97) hx hb dX6_number_90 (by decide) (fun cd12 => ?_) (fun cd12 => ?_)
          · have hw := hw.1 cd12
            exact J97 (fun (z0 : Int32) (z1 : Int32) (z2 : Int32) (z3 : Int32) (z4 : Int32) (z5 : Int32) => wl_n_X6_number_55 yx zl Q n z0 z1 z2 z3 z4 z5) ih zt zg x1 x2 x3 x4 (r7 - (48 : Int32)) _ _ _ hz_x4 hP hD hS (lv_sub hl [1, 2, 3, 4, 5, 0] rfl) hw
          · have hw := hw.2 cd12
            refine lv_iconst (v := 1) hx hb dX6_number_93 (by decide) ?_
            refine lv_goto (tgt := 98) hx hb dX6_number_94 (by decide) ?_
            exact J98 (fun (z0 : Int32) (z1 : Int32) (z2 : Int32) (z3 : Int32) (z4 : Int32) (z5 : Int32) => wl_n_X6_number_55 yx zl Q n z0 z1 z2 z3 z4 z5) ih zt zg x1 x2 x3 x4 (r7 - (48 : Int32)) (1 : Int32) _ _ _ hz_x4 (Or.inr rfl) hP hD hS (lv_sub hl [1, 2, 3, 4, 5, 0] rfl) hw
  have J34 : ∀ (zt : Int32) (zg : Int32) (x1 : Int32) (x2 : Int32) (x3 : Int32) (y1 : Int32) (H : Heap) (locs : List Loc) (ls : Array Slot), (y1 = 0 ∨ y1 = 1) → va_P (gD G) vwCl (w0_X6_number G qy qyn qyt qyu qyf qyr qyb qyk qyi qyx yn yt yu yf yr yb yk yi yx za zs zl zt zg zr zm) H → va_D A (w0_X6_number G qy qyn qyt qyu qyf qyr qyb qyk qyi qyx yn yt yu yf yr yb yk yi yx za zs zl zt zg zr zm) → va_S A s.heap H locs → lv_has ls 6 [(0, .ref qy), (1, .int x1), (2, .int x2), (3, .int x3)] → wj_n_X6_number_34 yx zl Q zt zg x1 x2 x3 y1 → W p l e ({ frames := 1, cells := 0, slots := 0, locals := 25 } : Room) s m ([.ref qy, .int a1, .int a2] : List Value).toArray below meth c H locs 0 0 (MQ below (va_Qi (fun (r : Int32) (u : Int32 × Int32) => Q r u.1 u.2) (mBk G A (fun (u : Int32 × Int32) => (w0_X6_number G qy qyn qyt qyu qyf qyr qyb qyk qyi qyx yn yt yu yf yr yb yk yi yx za zs zl u.1 u.2 zr zm))) A) ([.ref qy, .int a1, .int a2] : List Value).toArray s 0 0 A) (F0 m 34 ls [.int y1, .ref qy]) := by
    intro zt zg x1 x2 x3 y1 H locs ls hz_y1 hP hD hS hl hw
    unfold wj_n_X6_number_34 at hw
    refine kc_v (kr_V [] ⟨hx, hb, hml, hown, hts⟩ (cn_X6_take l G qy qyn qyt qyu qyf qyr qyb qyk qyi qyx yn yt yu yf yr yb yk yi yx za zs zl zt zg zr zm y1 hw H.size) (cwV 1 hts gX6_number_X6_take rfl rfl rfl (by decide +kernel) ⟨Nat.le_of_ble_eq_true rfl, Nat.le_of_ble_eq_true rfl⟩) hK hG hP hD hS hA [0, 1, 2, 3, 4, 5, 6, 7, 8, 9] rfl rfl 6 0 rfl rfl rfl hl.1 rfl (Nat.le_of_ble_eq_true rfl) dX6_number_34 ⟨Nat.le_of_ble_eq_true rfl, Nat.le_of_ble_eq_true rfl⟩) hP hD hS hA [0, 1, 2, 3, 4, 5, 6, 7, 8, 9] [] rfl rfl rfl (by decide) (fun u H locs hw hP hD hS => ?_)
    obtain ⟨zt_3, zg_4⟩ := u
    try dsimp only at hw
    have hP := hP.sub (ws' := (w0_X6_number G qy qyn qyt qyu qyf qyr qyb qyk qyi qyx yn yt yu yf yr yb yk yi yx za zs zl zt_3 zg_4 zr zm)) [0, 1, 2, 3, 4, 5, 6, 7, 8, 9] rfl
    have hD := hD.sub (ws' := (w0_X6_number G qy qyn qyt qyu qyf qyr qyb qyk qyi qyx yn yt yu yf yr yb yk yi yx za zs zl zt_3 zg_4 zr zm)) [0, 1, 2, 3, 4, 5, 6, 7, 8, 9] rfl rfl
    refine lv_aload_n hx hb dX6_number_37 rfl (lv_at hl 0 rfl) ?_
    refine va_get (D := gD G) (ci := 6) (v := .int zg_4) (C := RX6) (T := TX6) (N := 16) hx hb hts k_X6_number_inX6 hown hK hP 0 rfl rfl 13 (by decide) (hts _ k_X6_number_f122) (fun _ h9 => h9) rfl dX6_number_38 ?_
    refine lv_if_eq (tgt := 52) hx hb dX6_number_41 (by decide) (fun cd5 => ?_) (fun cd5 => ?_)
    · have hw := hw.1 cd5
      refine lv_iconst (v := 0) hx hb dX6_number_52 (by decide) ?_
      refine lv_istore (lv' := [(4, .int (0 : Int32)), (0, .ref qy), (1, .int x1), (2, .int x2), (3, .int x3)]) hx hb dX6_number_53 hl (by decide) rfl (fun ls hl => ?_)
      obtain ⟨n55, hw⟩ := hw
      exact J55 n55 zt_3 zg_4 x1 x2 x3 (0 : Int32) _ _ _ (Or.inl rfl) hP hD hS (lv_sub hl [1, 2, 3, 4, 0] rfl) hw
    · have hw := hw.2 cd5
      refine lv_iload_n hx hb dX6_number_44 rfl (lv_at hl 3 rfl) ?_
      refine lv_if_le (tgt := 52) hx hb dX6_number_45 (by decide) (fun cd13 => ?_) (fun cd13 => ?_)
      · have hw := hw.1 cd13
        refine lv_iconst (v := 0) hx hb dX6_number_52 (by decide) ?_
        refine lv_istore (lv' := [(4, .int (0 : Int32)), (0, .ref qy), (1, .int x1), (2, .int x2), (3, .int x3)]) hx hb dX6_number_53 hl (by decide) rfl (fun ls hl => ?_)
        obtain ⟨n55, hw⟩ := hw
        exact J55 n55 zt_3 zg_4 x1 x2 x3 (0 : Int32) _ _ _ (Or.inl rfl) hP hD hS (lv_sub hl [1, 2, 3, 4, 0] rfl) hw
      · have hw := hw.2 cd13
        refine lv_iconst (v := 1) hx hb dX6_number_48 (by decide) ?_
        refine lv_goto (tgt := 53) hx hb dX6_number_49 (by decide) ?_
        refine lv_istore (lv' := [(4, .int (1 : Int32)), (0, .ref qy), (1, .int x1), (2, .int x2), (3, .int x3)]) hx hb dX6_number_53 hl (by decide) rfl (fun ls hl => ?_)
        obtain ⟨n55, hw⟩ := hw
        exact J55 n55 zt_3 zg_4 x1 x2 x3 (1 : Int32) _ _ _ (Or.inr rfl) hP hD hS (lv_sub hl [1, 2, 3, 4, 0] rfl) hw
  have J33 : ∀ (zt : Int32) (zg : Int32) (x1 : Int32) (x2 : Int32) (x3 : Int32) (H : Heap) (locs : List Loc) (ls : Array Slot), va_P (gD G) vwCl (w0_X6_number G qy qyn qyt qyu qyf qyr qyb qyk qyi qyx yn yt yu yf yr yb yk yi yx za zs zl zt zg zr zm) H → va_D A (w0_X6_number G qy qyn qyt qyu qyf qyr qyb qyk qyi qyx yn yt yu yf yr yb yk yi yx za zs zl zt zg zr zm) → va_S A s.heap H locs → lv_has ls 6 [(0, .ref qy), (1, .int x1), (2, .int x2), (3, .int x3)] → wj_n_X6_number_33 yx zl Q zt zg x1 x2 x3 → W p l e ({ frames := 1, cells := 0, slots := 0, locals := 25 } : Room) s m ([.ref qy, .int a1, .int a2] : List Value).toArray below meth c H locs 0 0 (MQ below (va_Qi (fun (r : Int32) (u : Int32 × Int32) => Q r u.1 u.2) (mBk G A (fun (u : Int32 × Int32) => (w0_X6_number G qy qyn qyt qyu qyf qyr qyb qyk qyi qyx yn yt yu yf yr yb yk yi yx za zs zl u.1 u.2 zr zm))) A) ([.ref qy, .int a1, .int a2] : List Value).toArray s 0 0 A) (F0 m 33 ls [.ref qy]) := by
    intro zt zg x1 x2 x3 H locs ls hP hD hS hl hw
    unfold wj_n_X6_number_33 at hw
    refine lv_iconst (v := 0) hx hb dX6_number_33 (by decide) ?_
    exact J34 zt zg x1 x2 x3 (0 : Int32) _ _ _ (Or.inl rfl) hP hD hS hl hw
  unfold wn_X6_number at hw
  refine lv_aload_n hx hb dX6_number_0 rfl (lv_at hl 0 rfl) ?_
  refine kcR_i (kr_V [] ⟨hx, hb, hml, hown, hts⟩ (cn_X6_here l G qy qyn qyt qyu qyf qyr qyb qyk qyi qyx yn yt yu yf yr yb yk yi yx za zs zl zt zg zr zm hw H.size) (cwV 0 hts gX6_number_X6_here rfl rfl rfl (by decide +kernel) ⟨Nat.le_of_ble_eq_true rfl, Nat.le_of_ble_eq_true rfl⟩) hK hG hP hD hS hA [0, 1, 2, 3, 4, 5, 6, 7, 8, 9] rfl rfl 6 0 rfl rfl rfl hl.1 rfl (Nat.le_of_ble_eq_true rfl) dX6_number_1 ⟨Nat.le_of_ble_eq_true rfl, Nat.le_of_ble_eq_true rfl⟩) hP hD hS hA [0, 1, 2, 3, 4, 5, 6, 7, 8, 9] rfl (fun r1 u H locs hw hP hS => ?_)
  try dsimp only at hw
  refine lv_bipush (v := 48) hx hb dX6_number_4 (by decide) ?_
  refine lv_isub hx hb dX6_number_6 ?_
  refine lv_istore_n (lv' := [(3, .int (r1 - (48 : Int32))), (0, .ref qy), (1, .int a1), (2, .int a2)]) hx hb dX6_number_7 rfl hl (by decide) rfl (fun ls hl => ?_)
  refine lv_aload_n hx hb dX6_number_8 rfl (lv_at hl 1 rfl) ?_
  refine lv_aload_n hx hb dX6_number_9 rfl (lv_at hl 1 rfl) ?_
  refine va_get (D := gD G) (ci := 6) (v := .int zg) (C := RX6) (T := TX6) (N := 16) hx hb hts k_X6_number_inX6 hown hK hP 0 rfl rfl 13 (by decide) (hts _ k_X6_number_f122) (fun _ h9 => h9) rfl dX6_number_10 ?_
  refine lv_if_eq (tgt := 33) hx hb dX6_number_13 (by decide) (fun cd2 => ?_) (fun cd2 => ?_)
  · have hw := hw.1 cd2
    exact J33 zt zg a1 a2 (r1 - (48 : Int32)) _ _ _ hP hD hS (lv_sub hl [1, 2, 3, 0] rfl) hw
  · have hw := hw.2 cd2
    refine lv_iload_n hx hb dX6_number_16 rfl (lv_at hl 0 rfl) ?_
    refine lv_i2l hx hb dX6_number_17 rfl ?_
    refine lv_iload_n hx hb dX6_number_18 rfl (lv_at hl 2 rfl) ?_
    refine lv_i2l hx hb dX6_number_19 rfl ?_
    refine lv_ldc2 (v := 9) hx hb hown (hts _ k_X6_number_c129) dX6_number_20 ?_
    refine kcR_i (kr_S [.ref qy] ⟨hx, hb, hml, hown, hts⟩ (cn_X6_in l G ((r1 - (48 : Int32)).toInt64) a1.toInt64 (9 : Int64) hw H.size) (va_cwS 3 hts gX6_number_X6_in rfl rfl rfl (by decide +kernel) ⟨Nat.le_of_ble_eq_true rfl, Nat.le_of_ble_eq_true rfl⟩) hK hG hP hD hS hA [] rfl rfl rfl hl.1 rfl (Nat.le_of_ble_eq_true rfl) dX6_number_23 ⟨Nat.le_of_ble_eq_true rfl, Nat.le_of_ble_eq_true rfl⟩) hP hD hS hA [] rfl (fun r14 u H locs hw hP hS => ?_)
    try dsimp only at hw
    obtain ⟨hz_r14, hw⟩ := hw
    refine lv_if_eq (tgt := 33) hx hb dX6_number_26 (by decide) (fun cd15 => ?_) (fun cd15 => ?_)
    · have hw := hw.1 cd15
      exact J33 zt zg a1 a2 (r1 - (48 : Int32)) _ _ _ hP hD hS (lv_sub hl [1, 2, 3, 0] rfl) hw
    · have hw := hw.2 cd15
      refine lv_iconst (v := 1) hx hb dX6_number_29 (by decide) ?_
      refine lv_goto (tgt := 34) hx hb dX6_number_30 (by decide) ?_
      exact J34 zt zg a1 a2 (r1 - (48 : Int32)) (1 : Int32) _ _ _ (Or.inr rfl) hP hD hS (lv_sub hl [1, 2, 3, 0] rfl) hw

abbrev w0_X6_readPart (G : mG) (qy : Nat) (qyn : Nat) (qyt : Nat) (qyu : Nat) (qyf : Nat) (qyr : Nat) (qyb : Nat) (qyk : Nat) (qyi : Nat) (qyx : Nat) (yn : Nat → Int32) (yt : Nat → Int32) (yu : Nat → Int32) (yf : Nat → Int32) (yr : Nat → Int32) (yb : Nat → Int32) (yk : Nat → Int32) (yi : Nat → Int32) (yx : Nat → Int32) (za : Int32) (zs : Int32) (zl : Int32) (zt : Int32) (zg : Int32) (zr : Int32) (zm : Int32) : va_W := [(qy, .inr (6, [.int za, .ref qyn, .ref qyt, .ref qyu, .ref qyf, .ref qyr, .ref qyb, .int zs, .ref qyk, .ref qyi, .ref qyx, .int zl, .int zt, .int zg, .int zr, .int zm])), (qyn, .inl (gI G, (45, .inl yn))), (qyt, .inl (gI G, (45, .inl yt))), (qyu, .inl (gI G, (16384, .inl yu))), (qyf, .inl (gI G, (14, .inl yf))), (qyr, .inl (gI G, (14, .inl yr))), (qyb, .inl (gI G, (270, .inl yb))), (qyk, .inl (gI G, (90, .inl yk))), (qyi, .inl (gZ G, (2, .inl yi))), (qyx, .inl (gI G, (60, .inl yx)))]
set_option maxRecDepth 100000 in
theorem k_X6_readPart_inX6 : ∀ w ∈ u_ws RX6 TX6 16, w ∈ wsX6_readPart := by decide +kernel
set_option maxRecDepth 100000 in
theorem k_X6_readPart_f122 : Cond.fieldLink RX6 122 "RehearsalRoomModel" "good" "Z" ∈ wsX6_readPart := by decide +kernel
set_option maxRecDepth 100000 in
theorem k_X6_readPart_f138 : Cond.fieldLink RX6 138 "RehearsalRoomModel" "ranged" "Z" ∈ wsX6_readPart := by decide +kernel
set_option maxRecDepth 100000 in
theorem k_X6_readPart_f141 : Cond.fieldLink RX6 141 "RehearsalRoomModel" "more" "I" ∈ wsX6_readPart := by decide +kernel
set_option maxRecDepth 100000 in
theorem k_X6_readPart_f13 : Cond.fieldLink RX6 13 "RehearsalRoomModel" "trial" "[I" ∈ wsX6_readPart := by decide +kernel
set_option maxHeartbeats 8000000 in
set_option maxRecDepth 100000 in
theorem cn_X6_readPart (l : Launch) (G : mG) (qy : Nat) (qyn : Nat) (qyt : Nat) (qyu : Nat) (qyf : Nat) (qyr : Nat) (qyb : Nat) (qyk : Nat) (qyi : Nat) (qyx : Nat) (yn : Nat → Int32) (yt : Nat → Int32) (yu : Nat → Int32) (yf : Nat → Int32) (yr : Nat → Int32) (yb : Nat → Int32) (yk : Nat → Int32) (yi : Nat → Int32) (yx : Nat → Int32) (za : Int32) (zs : Int32) (zl : Int32) (zt : Int32) (zg : Int32) (zr : Int32) (zm : Int32) {Q : (Nat → Int32) → Int32 → Int32 → Int32 → Int32 → Prop} (hw : wn_X6_readPart yt yx zl zt zg zr zm Q) (sz : Nat) :
    Met l yX6_readPart wsX6_readPart ({ frames := 2, cells := 0, slots := 0, locals := 50 } : Room) (va_Pc [.ref qy] (mPre G (w0_X6_readPart G qy qyn qyt qyu qyf qyr qyb qyk qyi qyx yn yt yu yf yr yb yk yi yx za zs zl zt zg zr zm) sz)) (va_Qv (fun (u : (Nat → Int32) × Int32 × Int32 × Int32 × Int32) => Q u.1 u.2.1 u.2.2.1 u.2.2.2.1 u.2.2.2.2) (mBk G (va_A (w0_X6_readPart G qy qyn qyt qyu qyf qyr qyb qyk qyi qyx yn yt yu yf yr yb yk yi yx za zs zl zt zg zr zm) sz) (fun (u : (Nat → Int32) × Int32 × Int32 × Int32 × Int32) => (w0_X6_readPart G qy qyn qyt qyu qyf qyr qyb qyk qyi qyx yn u.1 yu yf yr yb yk yi yx za zs zl u.2.1 u.2.2.1 u.2.2.2.1 u.2.2.2.2))) (va_A (w0_X6_readPart G qy qyn qyt qyu qyf qyr qyb qyk qyi qyx yn yt yu yf yr yb yk yi yx za zs zl zt zg zr zm) sz)) 0 0 (va_A (w0_X6_readPart G qy qyn qyt qyu qyf qyr qyb qyk qyi qyx yn yt yu yf yr yb yk yi yx za zs zl zt zg zr zm) sz) := by
  refine ms_v (cc := cX6_readPart) (maxL := 5) (ret := none) (post := (fun (u : (Nat → Int32) × Int32 × Int32 × Int32 × Int32) => Q u.1 u.2.1 u.2.2.1 u.2.2.2.1 u.2.2.2.2)) (w1 := (fun (u : (Nat → Int32) × Int32 × Int32 × Int32 × Int32) => (w0_X6_readPart G qy qyn qyt qyu qyf qyr qyb qyk qyi qyx yn u.1 yu yf yr yb yk yi yx za zs zl u.2.1 u.2.2.1 u.2.2.2.1 u.2.2.2.2))) (by decide) rfl (Nat.le_of_ble_eq_true rfl) ?_ sz
  intro p e s m below meth c A ls H locs hx hb hr hml hown hts hlocks hK hG hP hD hS hA hl
  have hown : s.vm.findClass RX6 = some m.cls := hown
  have hl : lv_has ls 5 [(0, .ref qy)] := hl
  have J85 : ∀ (yt : Nat → Int32) (zt : Int32) (zg : Int32) (zr : Int32) (zm : Int32) (x1 : Int32) (x2 : Int32) (x3 : Int32) (y1 : Int32) (H : Heap) (locs : List Loc) (ls : Array Slot), (y1 = 0 ∨ y1 = 1) → va_P (gD G) vwCl (w0_X6_readPart G qy qyn qyt qyu qyf qyr qyb qyk qyi qyx yn yt yu yf yr yb yk yi yx za zs zl zt zg zr zm) H → va_D A (w0_X6_readPart G qy qyn qyt qyu qyf qyr qyb qyk qyi qyx yn yt yu yf yr yb yk yi yx za zs zl zt zg zr zm) → va_S A s.heap H locs → lv_has ls 5 [(0, .ref qy), (1, .int x1), (2, .int x2), (3, .int x3)] → wj_n_X6_readPart_85 yx zl Q yt zt zg zr zm x1 x2 x3 y1 → W p l e ({ frames := 2, cells := 0, slots := 0, locals := 50 } : Room) s m ([.ref qy] : List Value).toArray below meth c H locs 0 0 (MQ below (va_Qv (fun (u : (Nat → Int32) × Int32 × Int32 × Int32 × Int32) => Q u.1 u.2.1 u.2.2.1 u.2.2.2.1 u.2.2.2.2) (mBk G A (fun (u : (Nat → Int32) × Int32 × Int32 × Int32 × Int32) => (w0_X6_readPart G qy qyn qyt qyu qyf qyr qyb qyk qyi qyx yn u.1 yu yf yr yb yk yi yx za zs zl u.2.1 u.2.2.1 u.2.2.2.1 u.2.2.2.2))) A) ([.ref qy] : List Value).toArray s 0 0 A) (F0 m 85 ls [.int y1, .ref qy]) := by
    intro yt zt zg zr zm x1 x2 x3 y1 H locs ls hz_y1 hP hD hS hl hw
    unfold wj_n_X6_readPart_85 at hw
    refine va_put (D := gD G) (ci := 6) (v := .int y1) (ty := .boolean) (C := RX6) (T := TX6) (N := 16) hx hb hts k_X6_readPart_inX6 tyX6 tyX6_ok nmX6 hown hK hP hD hS 0 rfl rfl 14 (by decide) (hts _ k_X6_readPart_f138) (fun _ h9 => h9) rfl (by decide +kernel) (nz hz_y1) (fz hz_y1) (Nat.le_of_ble_eq_true rfl) dX6_readPart_85 (fun H locs hP hD hS => ?_)
    have hP : va_P (gD G) vwCl (w0_X6_readPart G qy qyn qyt qyu qyf qyr qyb qyk qyi qyx yn yt yu yf yr yb yk yi yx za zs zl zt zg y1 zm) H := hP
    have hD : va_D A (w0_X6_readPart G qy qyn qyt qyu qyf qyr qyb qyk qyi qyx yn yt yu yf yr yb yk yi yx za zs zl zt zg y1 zm) := hD
    refine lv_aload_n hx hb dX6_readPart_88 rfl (lv_at hl 0 rfl) ?_
    refine lv_dup hx hb dX6_readPart_89 rfl ?_
    refine va_get (D := gD G) (ci := 6) (v := .int zm) (C := RX6) (T := TX6) (N := 16) hx hb hts k_X6_readPart_inX6 hown hK hP 0 rfl rfl 15 (by decide) (hts _ k_X6_readPart_f141) (fun _ h9 => h9) rfl dX6_readPart_90 ?_
    refine lv_iconst (v := 1) hx hb dX6_readPart_93 (by decide) ?_
    refine lv_iadd hx hb dX6_readPart_94 ?_
    refine va_put (D := gD G) (ci := 6) (v := .int (zm + (1 : Int32))) (ty := .int) (C := RX6) (T := TX6) (N := 16) hx hb hts k_X6_readPart_inX6 tyX6 tyX6_ok nmX6 hown hK hP hD hS 0 rfl rfl 15 (by decide) (hts _ k_X6_readPart_f141) (fun _ h9 => h9) rfl (by decide +kernel) rfl rfl (Nat.le_of_ble_eq_true rfl) dX6_readPart_95 (fun H locs hP hD hS => ?_)
    have hP : va_P (gD G) vwCl (w0_X6_readPart G qy qyn qyt qyu qyf qyr qyb qyk qyi qyx yn yt yu yf yr yb yk yi yx za zs zl zt zg y1 (zm + (1 : Int32))) H := hP
    have hD : va_D A (w0_X6_readPart G qy qyn qyt qyu qyf qyr qyb qyk qyi qyx yn yt yu yf yr yb yk yi yx za zs zl zt zg y1 (zm + (1 : Int32))) := hD
    refine lv_aload_n hx hb dX6_readPart_98 rfl (lv_at hl 0 rfl) ?_
    refine va_get (D := gD G) (ci := 6) (v := .ref qyt) (C := RX6) (T := TX6) (N := 16) hx hb hts k_X6_readPart_inX6 hown hK hP 0 rfl rfl 2 (by decide) (hts _ k_X6_readPart_f13) (fun _ h9 => h9) rfl dX6_readPart_99 ?_
    refine lv_bipush (v := 44) hx hb dX6_readPart_102 (by decide) ?_
    obtain ⟨h20, hw⟩ := hw
    refine va_iald hx hb hK hP 2 0 rfl rfl h20 dX6_readPart_104 ?_
    refine lv_bipush (v := 14) hx hb dX6_readPart_105 (by decide) ?_
    refine lv_icmp_ge (tgt := 123) hx hb dX6_readPart_107 (by decide) (fun cd21 => ?_) (fun cd21 => ?_)
    · have hw := hw.1 cd21
      refine lv_iconst (v := 0) hx hb dX6_readPart_123 (by decide) ?_
      refine lv_istore (lv' := [(4, .int (0 : Int32)), (0, .ref qy), (1, .int x1), (2, .int x2), (3, .int x3)]) hx hb dX6_readPart_124 hl (by decide) rfl (fun ls hl => ?_)
      exact fin_v (yt, zt, zg, y1, (zm + (1 : Int32))) hx hb hr hlocks hK hS hP hD hw dX6_readPart_126
    · have hw := hw.2 cd21
      refine lv_aload_n hx hb dX6_readPart_110 rfl (lv_at hl 0 rfl) ?_
      refine va_get (D := gD G) (ci := 6) (v := .ref qyt) (C := RX6) (T := TX6) (N := 16) hx hb hts k_X6_readPart_inX6 hown hK hP 0 rfl rfl 2 (by decide) (hts _ k_X6_readPart_f13) (fun _ h9 => h9) rfl dX6_readPart_111 ?_
      refine lv_iload_n hx hb dX6_readPart_114 rfl (lv_at hl 1 rfl) ?_
      refine lv_iload_n hx hb dX6_readPart_115 rfl (lv_at hl 2 rfl) ?_
      refine lv_iload_n hx hb dX6_readPart_116 rfl (lv_at hl 3 rfl) ?_
      refine kc_i (kr_S [] ⟨hx, hb, hml, hown, hts⟩ (cn_X6_goAdd l G qyt yt x1 x2 x3 hw H.size) (va_cwS 4 hts gX6_readPart_X6_goAdd rfl rfl rfl (by decide +kernel) ⟨Nat.le_of_ble_eq_true rfl, Nat.le_of_ble_eq_true rfl⟩) hK hG hP hD hS hA [2] rfl rfl rfl hl.1 rfl (Nat.le_of_ble_eq_true rfl) dX6_readPart_117 ⟨Nat.le_of_ble_eq_true rfl, Nat.le_of_ble_eq_true rfl⟩) hP hD hS hA [2] [0, 1, 3, 4, 5, 6, 7, 8, 9] rfl rfl rfl (by decide) (fun r22 u H locs hw hP hD hS => ?_)
      obtain ⟨uu_23, rfl⟩ : ∃ z, z = u := ⟨_, rfl⟩
      try dsimp only at hw
      have hP := hP.sub (ws' := (w0_X6_readPart G qy qyn qyt qyu qyf qyr qyb qyk qyi qyx yn uu_23 yu yf yr yb yk yi yx za zs zl zt zg y1 (zm + (1 : Int32)))) [0, 1, 9, 2, 3, 4, 5, 6, 7, 8] rfl
      have hD := hD.sub (ws' := (w0_X6_readPart G qy qyn qyt qyu qyf qyr qyb qyk qyi qyx yn uu_23 yu yf yr yb yk yi yx za zs zl zt zg y1 (zm + (1 : Int32)))) [0, 1, 9, 2, 3, 4, 5, 6, 7, 8] rfl rfl
      refine lv_goto (tgt := 124) hx hb dX6_readPart_120 (by decide) ?_
      refine lv_istore (lv' := [(4, .int r22), (0, .ref qy), (1, .int x1), (2, .int x2), (3, .int x3)]) hx hb dX6_readPart_124 hl (by decide) rfl (fun ls hl => ?_)
      exact fin_v (uu_23, zt, zg, y1, (zm + (1 : Int32))) hx hb hr hlocks hK hS hP hD hw dX6_readPart_126
  have J84 : ∀ (yt : Nat → Int32) (zt : Int32) (zg : Int32) (zr : Int32) (zm : Int32) (x1 : Int32) (x2 : Int32) (x3 : Int32) (H : Heap) (locs : List Loc) (ls : Array Slot), va_P (gD G) vwCl (w0_X6_readPart G qy qyn qyt qyu qyf qyr qyb qyk qyi qyx yn yt yu yf yr yb yk yi yx za zs zl zt zg zr zm) H → va_D A (w0_X6_readPart G qy qyn qyt qyu qyf qyr qyb qyk qyi qyx yn yt yu yf yr yb yk yi yx za zs zl zt zg zr zm) → va_S A s.heap H locs → lv_has ls 5 [(0, .ref qy), (1, .int x1), (2, .int x2), (3, .int x3)] → wj_n_X6_readPart_84 yx zl Q yt zt zg zr zm x1 x2 x3 → W p l e ({ frames := 2, cells := 0, slots := 0, locals := 50 } : Room) s m ([.ref qy] : List Value).toArray below meth c H locs 0 0 (MQ below (va_Qv (fun (u : (Nat → Int32) × Int32 × Int32 × Int32 × Int32) => Q u.1 u.2.1 u.2.2.1 u.2.2.2.1 u.2.2.2.2) (mBk G A (fun (u : (Nat → Int32) × Int32 × Int32 × Int32 × Int32) => (w0_X6_readPart G qy qyn qyt qyu qyf qyr qyb qyk qyi qyx yn u.1 yu yf yr yb yk yi yx za zs zl u.2.1 u.2.2.1 u.2.2.2.1 u.2.2.2.2))) A) ([.ref qy] : List Value).toArray s 0 0 A) (F0 m 84 ls [.ref qy]) := by
    intro yt zt zg zr zm x1 x2 x3 H locs ls hP hD hS hl hw
    unfold wj_n_X6_readPart_84 at hw
    refine lv_iconst (v := 0) hx hb dX6_readPart_84 (by decide) ?_
    exact J85 yt zt zg zr zm x1 x2 x3 (0 : Int32) _ _ _ (Or.inl rfl) hP hD hS hl hw
  have J49 : ∀ (yt : Nat → Int32) (zt : Int32) (zg : Int32) (zr : Int32) (zm : Int32) (x1 : Int32) (x2 : Int32) (y1 : Int32) (H : Heap) (locs : List Loc) (ls : Array Slot), (y1 = 0 ∨ y1 = 1) → va_P (gD G) vwCl (w0_X6_readPart G qy qyn qyt qyu qyf qyr qyb qyk qyi qyx yn yt yu yf yr yb yk yi yx za zs zl zt zg zr zm) H → va_D A (w0_X6_readPart G qy qyn qyt qyu qyf qyr qyb qyk qyi qyx yn yt yu yf yr yb yk yi yx za zs zl zt zg zr zm) → va_S A s.heap H locs → lv_has ls 5 [(0, .ref qy), (1, .int x1), (2, .int x2)] → wj_n_X6_readPart_49 yx zl Q yt zt zg zr zm x1 x2 y1 → W p l e ({ frames := 2, cells := 0, slots := 0, locals := 50 } : Room) s m ([.ref qy] : List Value).toArray below meth c H locs 0 0 (MQ below (va_Qv (fun (u : (Nat → Int32) × Int32 × Int32 × Int32 × Int32) => Q u.1 u.2.1 u.2.2.1 u.2.2.2.1 u.2.2.2.2) (mBk G A (fun (u : (Nat → Int32) × Int32 × Int32 × Int32 × Int32) => (w0_X6_readPart G qy qyn qyt qyu qyf qyr qyb qyk qyi qyx yn u.1 yu yf yr yb yk yi yx za zs zl u.2.1 u.2.2.1 u.2.2.2.1 u.2.2.2.2))) A) ([.ref qy] : List Value).toArray s 0 0 A) (F0 m 49 ls [.int y1, .ref qy]) := by
    intro yt zt zg zr zm x1 x2 y1 H locs ls hz_y1 hP hD hS hl hw
    unfold wj_n_X6_readPart_49 at hw
    refine kc_v (kr_V [] ⟨hx, hb, hml, hown, hts⟩ (cn_X6_take l G qy qyn qyt qyu qyf qyr qyb qyk qyi qyx yn yt yu yf yr yb yk yi yx za zs zl zt zg zr zm y1 hw H.size) (cwV 1 hts gX6_readPart_X6_take rfl rfl rfl (by decide +kernel) ⟨Nat.le_of_ble_eq_true rfl, Nat.le_of_ble_eq_true rfl⟩) hK hG hP hD hS hA [0, 1, 2, 3, 4, 5, 6, 7, 8, 9] rfl rfl 6 0 rfl rfl rfl hl.1 rfl (Nat.le_of_ble_eq_true rfl) dX6_readPart_49 ⟨Nat.le_of_ble_eq_true rfl, Nat.le_of_ble_eq_true rfl⟩) hP hD hS hA [0, 1, 2, 3, 4, 5, 6, 7, 8, 9] [] rfl rfl rfl (by decide) (fun u H locs hw hP hD hS => ?_)
    obtain ⟨zt_13, zg_14⟩ := u
    try dsimp only at hw
    have hP := hP.sub (ws' := (w0_X6_readPart G qy qyn qyt qyu qyf qyr qyb qyk qyi qyx yn yt yu yf yr yb yk yi yx za zs zl zt_13 zg_14 zr zm)) [0, 1, 2, 3, 4, 5, 6, 7, 8, 9] rfl
    have hD := hD.sub (ws' := (w0_X6_readPart G qy qyn qyt qyu qyf qyr qyb qyk qyi qyx yn yt yu yf yr yb yk yi yx za zs zl zt_13 zg_14 zr zm)) [0, 1, 2, 3, 4, 5, 6, 7, 8, 9] rfl rfl
    refine lv_aload_n hx hb dX6_readPart_52 rfl (lv_at hl 0 rfl) ?_
    refine lv_iconst (v := 1) hx hb dX6_readPart_53 (by decide) ?_
    refine lv_bipush (v := 50) hx hb dX6_readPart_54 (by decide) ?_
    refine kc_i (kr_V [] ⟨hx, hb, hml, hown, hts⟩ (cn_X6_number l G qy qyn qyt qyu qyf qyr qyb qyk qyi qyx yn yt yu yf yr yb yk yi yx za zs zl zt_13 zg_14 zr zm (1 : Int32) (50 : Int32) hw H.size) (cwV 2 hts gX6_readPart_X6_number rfl rfl rfl (by decide +kernel) ⟨Nat.le_of_ble_eq_true rfl, Nat.le_of_ble_eq_true rfl⟩) hK hG hP hD hS hA [0, 1, 2, 3, 4, 5, 6, 7, 8, 9] rfl rfl 6 0 rfl rfl rfl hl.1 rfl (Nat.le_of_ble_eq_true rfl) dX6_readPart_56 ⟨Nat.le_of_ble_eq_true rfl, Nat.le_of_ble_eq_true rfl⟩) hP hD hS hA [0, 1, 2, 3, 4, 5, 6, 7, 8, 9] [] rfl rfl rfl (by decide) (fun r15 u H locs hw hP hD hS => ?_)
    obtain ⟨zt_16, zg_17⟩ := u
    try dsimp only at hw
    have hP := hP.sub (ws' := (w0_X6_readPart G qy qyn qyt qyu qyf qyr qyb qyk qyi qyx yn yt yu yf yr yb yk yi yx za zs zl zt_16 zg_17 zr zm)) [0, 1, 2, 3, 4, 5, 6, 7, 8, 9] rfl
    have hD := hD.sub (ws' := (w0_X6_readPart G qy qyn qyt qyu qyf qyr qyb qyk qyi qyx yn yt yu yf yr yb yk yi yx za zs zl zt_16 zg_17 zr zm)) [0, 1, 2, 3, 4, 5, 6, 7, 8, 9] rfl rfl
    refine lv_istore_n (lv' := [(3, .int r15), (0, .ref qy), (1, .int x1), (2, .int x2)]) hx hb dX6_readPart_59 rfl hl (by decide) rfl (fun ls hl => ?_)
    refine lv_aload_n hx hb dX6_readPart_60 rfl (lv_at hl 1 rfl) ?_
    refine va_get (D := gD G) (ci := 6) (v := .int zg_17) (C := RX6) (T := TX6) (N := 16) hx hb hts k_X6_readPart_inX6 hown hK hP 0 rfl rfl 13 (by decide) (hts _ k_X6_readPart_f122) (fun _ h9 => h9) rfl dX6_readPart_61 ?_
    refine lv_if_eq (tgt := 126) hx hb dX6_readPart_64 (by decide) (fun cd18 => ?_) (fun cd18 => ?_)
    · have hw := hw.1 cd18
      exact fin_v (yt, zt_16, zg_17, zr, zm) hx hb hr hlocks hK hS hP hD hw dX6_readPart_126
    · have hw := hw.2 cd18
      refine lv_aload_n hx hb dX6_readPart_67 rfl (lv_at hl 1 rfl) ?_
      refine lv_aload_n hx hb dX6_readPart_68 rfl (lv_at hl 1 rfl) ?_
      refine va_get (D := gD G) (ci := 6) (v := .int zr) (C := RX6) (T := TX6) (N := 16) hx hb hts k_X6_readPart_inX6 hown hK hP 0 rfl rfl 14 (by decide) (hts _ k_X6_readPart_f138) (fun _ h9 => h9) rfl dX6_readPart_69 ?_
      refine lv_if_eq (tgt := 84) hx hb dX6_readPart_72 (by decide) (fun cd19 => ?_) (fun cd19 => ?_)
      · have hw := hw.1 cd19
        exact J84 yt zt_16 zg_17 zr zm x1 x2 r15 _ _ _ hP hD hS (lv_sub hl [1, 2, 3, 0] rfl) hw
      · have hw := hw.2 cd19
        refine lv_iload_n hx hb dX6_readPart_75 rfl (lv_at hl 3 rfl) ?_
        refine lv_iload_n hx hb dX6_readPart_76 rfl (lv_at hl 2 rfl) ?_
        refine lv_icmp_le (tgt := 84) hx hb dX6_readPart_77 (by decide) (fun cd24 => ?_) (fun cd24 => ?_)
        · have hw := hw.1 cd24
          exact J84 yt zt_16 zg_17 zr zm x1 x2 r15 _ _ _ hP hD hS (lv_sub hl [1, 2, 3, 0] rfl) hw
        · have hw := hw.2 cd24
          refine lv_iconst (v := 1) hx hb dX6_readPart_80 (by decide) ?_
          refine lv_goto (tgt := 85) hx hb dX6_readPart_81 (by decide) ?_
          exact J85 yt zt_16 zg_17 zr zm x1 x2 r15 (1 : Int32) _ _ _ (Or.inr rfl) hP hD hS (lv_sub hl [1, 2, 3, 0] rfl) hw
  have J23 : ∀ (yt : Nat → Int32) (zt : Int32) (zg : Int32) (zr : Int32) (zm : Int32) (x1 : Int32) (y1 : Int32) (H : Heap) (locs : List Loc) (ls : Array Slot), (y1 = 0 ∨ y1 = 1) → va_P (gD G) vwCl (w0_X6_readPart G qy qyn qyt qyu qyf qyr qyb qyk qyi qyx yn yt yu yf yr yb yk yi yx za zs zl zt zg zr zm) H → va_D A (w0_X6_readPart G qy qyn qyt qyu qyf qyr qyb qyk qyi qyx yn yt yu yf yr yb yk yi yx za zs zl zt zg zr zm) → va_S A s.heap H locs → lv_has ls 5 [(0, .ref qy), (1, .int x1)] → wj_n_X6_readPart_23 yx zl Q yt zt zg zr zm x1 y1 → W p l e ({ frames := 2, cells := 0, slots := 0, locals := 50 } : Room) s m ([.ref qy] : List Value).toArray below meth c H locs 0 0 (MQ below (va_Qv (fun (u : (Nat → Int32) × Int32 × Int32 × Int32 × Int32) => Q u.1 u.2.1 u.2.2.1 u.2.2.2.1 u.2.2.2.2) (mBk G A (fun (u : (Nat → Int32) × Int32 × Int32 × Int32 × Int32) => (w0_X6_readPart G qy qyn qyt qyu qyf qyr qyb qyk qyi qyx yn u.1 yu yf yr yb yk yi yx za zs zl u.2.1 u.2.2.1 u.2.2.2.1 u.2.2.2.2))) A) ([.ref qy] : List Value).toArray s 0 0 A) (F0 m 23 ls [.int y1, .ref qy]) := by
    intro yt zt zg zr zm x1 y1 H locs ls hz_y1 hP hD hS hl hw
    unfold wj_n_X6_readPart_23 at hw
    refine kc_v (kr_V [] ⟨hx, hb, hml, hown, hts⟩ (cn_X6_take l G qy qyn qyt qyu qyf qyr qyb qyk qyi qyx yn yt yu yf yr yb yk yi yx za zs zl zt zg zr zm y1 hw H.size) (cwV 1 hts gX6_readPart_X6_take rfl rfl rfl (by decide +kernel) ⟨Nat.le_of_ble_eq_true rfl, Nat.le_of_ble_eq_true rfl⟩) hK hG hP hD hS hA [0, 1, 2, 3, 4, 5, 6, 7, 8, 9] rfl rfl 6 0 rfl rfl rfl hl.1 rfl (Nat.le_of_ble_eq_true rfl) dX6_readPart_23 ⟨Nat.le_of_ble_eq_true rfl, Nat.le_of_ble_eq_true rfl⟩) hP hD hS hA [0, 1, 2, 3, 4, 5, 6, 7, 8, 9] [] rfl rfl rfl (by decide) (fun u H locs hw hP hD hS => ?_)
    obtain ⟨zt_6, zg_7⟩ := u
    try dsimp only at hw
    have hP := hP.sub (ws' := (w0_X6_readPart G qy qyn qyt qyu qyf qyr qyb qyk qyi qyx yn yt yu yf yr yb yk yi yx za zs zl zt_6 zg_7 zr zm)) [0, 1, 2, 3, 4, 5, 6, 7, 8, 9] rfl
    have hD := hD.sub (ws' := (w0_X6_readPart G qy qyn qyt qyu qyf qyr qyb qyk qyi qyx yn yt yu yf yr yb yk yi yx za zs zl zt_6 zg_7 zr zm)) [0, 1, 2, 3, 4, 5, 6, 7, 8, 9] rfl rfl
    refine lv_aload_n hx hb dX6_readPart_26 rfl (lv_at hl 0 rfl) ?_
    refine lv_iconst (v := 1) hx hb dX6_readPart_27 (by decide) ?_
    refine lv_bipush (v := 96) hx hb dX6_readPart_28 (by decide) ?_
    refine kc_i (kr_V [] ⟨hx, hb, hml, hown, hts⟩ (cn_X6_number l G qy qyn qyt qyu qyf qyr qyb qyk qyi qyx yn yt yu yf yr yb yk yi yx za zs zl zt_6 zg_7 zr zm (1 : Int32) (96 : Int32) hw H.size) (cwV 2 hts gX6_readPart_X6_number rfl rfl rfl (by decide +kernel) ⟨Nat.le_of_ble_eq_true rfl, Nat.le_of_ble_eq_true rfl⟩) hK hG hP hD hS hA [0, 1, 2, 3, 4, 5, 6, 7, 8, 9] rfl rfl 6 0 rfl rfl rfl hl.1 rfl (Nat.le_of_ble_eq_true rfl) dX6_readPart_30 ⟨Nat.le_of_ble_eq_true rfl, Nat.le_of_ble_eq_true rfl⟩) hP hD hS hA [0, 1, 2, 3, 4, 5, 6, 7, 8, 9] [] rfl rfl rfl (by decide) (fun r8 u H locs hw hP hD hS => ?_)
    obtain ⟨zt_9, zg_10⟩ := u
    try dsimp only at hw
    have hP := hP.sub (ws' := (w0_X6_readPart G qy qyn qyt qyu qyf qyr qyb qyk qyi qyx yn yt yu yf yr yb yk yi yx za zs zl zt_9 zg_10 zr zm)) [0, 1, 2, 3, 4, 5, 6, 7, 8, 9] rfl
    have hD := hD.sub (ws' := (w0_X6_readPart G qy qyn qyt qyu qyf qyr qyb qyk qyi qyx yn yt yu yf yr yb yk yi yx za zs zl zt_9 zg_10 zr zm)) [0, 1, 2, 3, 4, 5, 6, 7, 8, 9] rfl rfl
    refine lv_istore_n (lv' := [(2, .int r8), (0, .ref qy), (1, .int x1)]) hx hb dX6_readPart_33 rfl hl (by decide) rfl (fun ls hl => ?_)
    refine lv_aload_n hx hb dX6_readPart_34 rfl (lv_at hl 1 rfl) ?_
    refine lv_aload_n hx hb dX6_readPart_35 rfl (lv_at hl 1 rfl) ?_
    refine kcR_i (kr_V [.ref qy] ⟨hx, hb, hml, hown, hts⟩ (cn_X6_here l G qy qyn qyt qyu qyf qyr qyb qyk qyi qyx yn yt yu yf yr yb yk yi yx za zs zl zt_9 zg_10 zr zm hw H.size) (cwV 0 hts gX6_readPart_X6_here rfl rfl rfl (by decide +kernel) ⟨Nat.le_of_ble_eq_true rfl, Nat.le_of_ble_eq_true rfl⟩) hK hG hP hD hS hA [0, 1, 2, 3, 4, 5, 6, 7, 8, 9] rfl rfl 6 0 rfl rfl rfl hl.1 rfl (Nat.le_of_ble_eq_true rfl) dX6_readPart_36 ⟨Nat.le_of_ble_eq_true rfl, Nat.le_of_ble_eq_true rfl⟩) hP hD hS hA [0, 1, 2, 3, 4, 5, 6, 7, 8, 9] rfl (fun r11 u H locs hw hP hS => ?_)
    try dsimp only at hw
    refine lv_bipush (v := 42) hx hb dX6_readPart_39 (by decide) ?_
    refine lv_icmp_ne (tgt := 48) hx hb dX6_readPart_41 (by decide) (fun cd12 => ?_) (fun cd12 => ?_)
    · have hw := hw.1 cd12
      refine lv_iconst (v := 0) hx hb dX6_readPart_48 (by decide) ?_
      exact J49 yt zt_9 zg_10 zr zm x1 r8 (0 : Int32) _ _ _ (Or.inl rfl) hP hD hS (lv_sub hl [1, 2, 0] rfl) hw
    · have hw := hw.2 cd12
      refine lv_iconst (v := 1) hx hb dX6_readPart_44 (by decide) ?_
      refine lv_goto (tgt := 49) hx hb dX6_readPart_45 (by decide) ?_
      exact J49 yt zt_9 zg_10 zr zm x1 r8 (1 : Int32) _ _ _ (Or.inr rfl) hP hD hS (lv_sub hl [1, 2, 0] rfl) hw
  unfold wn_X6_readPart at hw
  refine lv_aload_n hx hb dX6_readPart_0 rfl (lv_at hl 0 rfl) ?_
  refine lv_iconst (v := 0) hx hb dX6_readPart_1 (by decide) ?_
  refine lv_bipush (v := 95) hx hb dX6_readPart_2 (by decide) ?_
  refine kc_i (kr_V [] ⟨hx, hb, hml, hown, hts⟩ (cn_X6_number l G qy qyn qyt qyu qyf qyr qyb qyk qyi qyx yn yt yu yf yr yb yk yi yx za zs zl zt zg zr zm (0 : Int32) (95 : Int32) hw H.size) (cwV 2 hts gX6_readPart_X6_number rfl rfl rfl (by decide +kernel) ⟨Nat.le_of_ble_eq_true rfl, Nat.le_of_ble_eq_true rfl⟩) hK hG hP hD hS hA [0, 1, 2, 3, 4, 5, 6, 7, 8, 9] rfl rfl 6 0 rfl rfl rfl hl.1 rfl (Nat.le_of_ble_eq_true rfl) dX6_readPart_4 ⟨Nat.le_of_ble_eq_true rfl, Nat.le_of_ble_eq_true rfl⟩) hP hD hS hA [0, 1, 2, 3, 4, 5, 6, 7, 8, 9] [] rfl rfl rfl (by decide) (fun r1 u H locs hw hP hD hS => ?_)
  obtain ⟨zt_2, zg_3⟩ := u
  try dsimp only at hw
  have hP := hP.sub (ws' := (w0_X6_readPart G qy qyn qyt qyu qyf qyr qyb qyk qyi qyx yn yt yu yf yr yb yk yi yx za zs zl zt_2 zg_3 zr zm)) [0, 1, 2, 3, 4, 5, 6, 7, 8, 9] rfl
  have hD := hD.sub (ws' := (w0_X6_readPart G qy qyn qyt qyu qyf qyr qyb qyk qyi qyx yn yt yu yf yr yb yk yi yx za zs zl zt_2 zg_3 zr zm)) [0, 1, 2, 3, 4, 5, 6, 7, 8, 9] rfl rfl
  refine lv_istore_n (lv' := [(1, .int r1), (0, .ref qy)]) hx hb dX6_readPart_7 rfl hl (by decide) rfl (fun ls hl => ?_)
  refine lv_aload_n hx hb dX6_readPart_8 rfl (lv_at hl 1 rfl) ?_
  refine lv_aload_n hx hb dX6_readPart_9 rfl (lv_at hl 1 rfl) ?_
  refine kcR_i (kr_V [.ref qy] ⟨hx, hb, hml, hown, hts⟩ (cn_X6_here l G qy qyn qyt qyu qyf qyr qyb qyk qyi qyx yn yt yu yf yr yb yk yi yx za zs zl zt_2 zg_3 zr zm hw H.size) (cwV 0 hts gX6_readPart_X6_here rfl rfl rfl (by decide +kernel) ⟨Nat.le_of_ble_eq_true rfl, Nat.le_of_ble_eq_true rfl⟩) hK hG hP hD hS hA [0, 1, 2, 3, 4, 5, 6, 7, 8, 9] rfl rfl 6 0 rfl rfl rfl hl.1 rfl (Nat.le_of_ble_eq_true rfl) dX6_readPart_10 ⟨Nat.le_of_ble_eq_true rfl, Nat.le_of_ble_eq_true rfl⟩) hP hD hS hA [0, 1, 2, 3, 4, 5, 6, 7, 8, 9] rfl (fun r4 u H locs hw hP hS => ?_)
  try dsimp only at hw
  refine lv_bipush (v := 45) hx hb dX6_readPart_13 (by decide) ?_
  refine lv_icmp_ne (tgt := 22) hx hb dX6_readPart_15 (by decide) (fun cd5 => ?_) (fun cd5 => ?_)
  · have hw := hw.1 cd5
    refine lv_iconst (v := 0) hx hb dX6_readPart_22 (by decide) ?_
    exact J23 yt zt_2 zg_3 zr zm r1 (0 : Int32) _ _ _ (Or.inl rfl) hP hD hS (lv_sub hl [1, 0] rfl) hw
  · have hw := hw.2 cd5
    refine lv_iconst (v := 1) hx hb dX6_readPart_18 (by decide) ?_
    refine lv_goto (tgt := 23) hx hb dX6_readPart_19 (by decide) ?_
    exact J23 yt zt_2 zg_3 zr zm r1 (1 : Int32) _ _ _ (Or.inr rfl) hP hD hS (lv_sub hl [1, 0] rfl) hw

abbrev w0_X6_readAll (G : mG) (qy : Nat) (qyn : Nat) (qyt : Nat) (qyu : Nat) (qyf : Nat) (qyr : Nat) (qyb : Nat) (qyk : Nat) (qyi : Nat) (qyx : Nat) (yn : Nat → Int32) (yt : Nat → Int32) (yu : Nat → Int32) (yf : Nat → Int32) (yr : Nat → Int32) (yb : Nat → Int32) (yk : Nat → Int32) (yi : Nat → Int32) (yx : Nat → Int32) (za : Int32) (zs : Int32) (zl : Int32) (zt : Int32) (zg : Int32) (zr : Int32) (zm : Int32) : va_W := [(qy, .inr (6, [.int za, .ref qyn, .ref qyt, .ref qyu, .ref qyf, .ref qyr, .ref qyb, .int zs, .ref qyk, .ref qyi, .ref qyx, .int zl, .int zt, .int zg, .int zr, .int zm])), (qyn, .inl (gI G, (45, .inl yn))), (qyt, .inl (gI G, (45, .inl yt))), (qyu, .inl (gI G, (16384, .inl yu))), (qyf, .inl (gI G, (14, .inl yf))), (qyr, .inl (gI G, (14, .inl yr))), (qyb, .inl (gI G, (270, .inl yb))), (qyk, .inl (gI G, (90, .inl yk))), (qyi, .inl (gZ G, (2, .inl yi))), (qyx, .inl (gI G, (60, .inl yx)))]
set_option maxRecDepth 100000 in
theorem k_X6_readAll_inX6 : ∀ w ∈ u_ws RX6 TX6 16, w ∈ wsX6_readAll := by decide +kernel
set_option maxRecDepth 100000 in
theorem k_X6_readAll_f119 : Cond.fieldLink RX6 119 "RehearsalRoomModel" "at" "I" ∈ wsX6_readAll := by decide +kernel
set_option maxRecDepth 100000 in
theorem k_X6_readAll_f122 : Cond.fieldLink RX6 122 "RehearsalRoomModel" "good" "Z" ∈ wsX6_readAll := by decide +kernel
set_option maxRecDepth 100000 in
theorem k_X6_readAll_f138 : Cond.fieldLink RX6 138 "RehearsalRoomModel" "ranged" "Z" ∈ wsX6_readAll := by decide +kernel
set_option maxRecDepth 100000 in
theorem k_X6_readAll_f141 : Cond.fieldLink RX6 141 "RehearsalRoomModel" "more" "I" ∈ wsX6_readAll := by decide +kernel
set_option maxRecDepth 100000 in
theorem k_X6_readAll_f7 : Cond.fieldLink RX6 7 "RehearsalRoomModel" "now" "[I" ∈ wsX6_readAll := by decide +kernel
set_option maxRecDepth 100000 in
theorem k_X6_readAll_f13 : Cond.fieldLink RX6 13 "RehearsalRoomModel" "trial" "[I" ∈ wsX6_readAll := by decide +kernel
set_option maxRecDepth 100000 in
theorem k_X6_readAll_f116 : Cond.fieldLink RX6 116 "RehearsalRoomModel" "length" "I" ∈ wsX6_readAll := by decide +kernel
set_option maxHeartbeats 8000000 in
set_option maxRecDepth 100000 in
theorem cn_X6_readAll (l : Launch) (G : mG) (qy : Nat) (qyn : Nat) (qyt : Nat) (qyu : Nat) (qyf : Nat) (qyr : Nat) (qyb : Nat) (qyk : Nat) (qyi : Nat) (qyx : Nat) (yn : Nat → Int32) (yt : Nat → Int32) (yu : Nat → Int32) (yf : Nat → Int32) (yr : Nat → Int32) (yb : Nat → Int32) (yk : Nat → Int32) (yi : Nat → Int32) (yx : Nat → Int32) (za : Int32) (zs : Int32) (zl : Int32) (zt : Int32) (zg : Int32) (zr : Int32) (zm : Int32) {Q : (Nat → Int32) → Int32 → Int32 → Int32 → Int32 → Prop} (hw : wn_X6_readAll yn yt yx zl zt zg zr zm Q) (sz : Nat) :
    Met l yX6_readAll wsX6_readAll ({ frames := 3, cells := 0, slots := 0, locals := 74 } : Room) (va_Pc [.ref qy] (mPre G (w0_X6_readAll G qy qyn qyt qyu qyf qyr qyb qyk qyi qyx yn yt yu yf yr yb yk yi yx za zs zl zt zg zr zm) sz)) (va_Qv (fun (u : (Nat → Int32) × Int32 × Int32 × Int32 × Int32) => Q u.1 u.2.1 u.2.2.1 u.2.2.2.1 u.2.2.2.2) (mBk G (va_A (w0_X6_readAll G qy qyn qyt qyu qyf qyr qyb qyk qyi qyx yn yt yu yf yr yb yk yi yx za zs zl zt zg zr zm) sz) (fun (u : (Nat → Int32) × Int32 × Int32 × Int32 × Int32) => (w0_X6_readAll G qy qyn qyt qyu qyf qyr qyb qyk qyi qyx yn u.1 yu yf yr yb yk yi yx za zs zl u.2.1 u.2.2.1 u.2.2.2.1 u.2.2.2.2))) (va_A (w0_X6_readAll G qy qyn qyt qyu qyf qyr qyb qyk qyi qyx yn yt yu yf yr yb yk yi yx za zs zl zt zg zr zm) sz)) 0 0 (va_A (w0_X6_readAll G qy qyn qyt qyu qyf qyr qyb qyk qyi qyx yn yt yu yf yr yb yk yi yx za zs zl zt zg zr zm) sz) := by
  refine ms_v (cc := cX6_readAll) (maxL := 1) (ret := none) (post := (fun (u : (Nat → Int32) × Int32 × Int32 × Int32 × Int32) => Q u.1 u.2.1 u.2.2.1 u.2.2.2.1 u.2.2.2.2)) (w1 := (fun (u : (Nat → Int32) × Int32 × Int32 × Int32 × Int32) => (w0_X6_readAll G qy qyn qyt qyu qyf qyr qyb qyk qyi qyx yn u.1 yu yf yr yb yk yi yx za zs zl u.2.1 u.2.2.1 u.2.2.2.1 u.2.2.2.2))) (by decide) rfl (Nat.le_of_ble_eq_true rfl) ?_ sz
  intro p e s m below meth c A ls H locs hx hb hr hml hown hts hlocks hK hG hP hD hS hA hl
  have hown : s.vm.findClass RX6 = some m.cls := hown
  have hl : lv_has ls 1 [(0, .ref qy)] := hl
  have J68 : ∀ (k35 : (Nat → Int32) → Int32 → Int32 → Int32 → Int32 → Prop) (hk35 : ∀ (yt : Nat → Int32) (zt : Int32) (zg : Int32) (zr : Int32) (zm : Int32) (H : Heap) (locs : List Loc) (ls : Array Slot), va_P (gD G) vwCl (w0_X6_readAll G qy qyn qyt qyu qyf qyr qyb qyk qyi qyx yn yt yu yf yr yb yk yi yx za zs zl zt zg zr zm) H → va_D A (w0_X6_readAll G qy qyn qyt qyu qyf qyr qyb qyk qyi qyx yn yt yu yf yr yb yk yi yx za zs zl zt zg zr zm) → va_S A s.heap H locs → lv_has ls 1 [(0, .ref qy)] → k35 yt zt zg zr zm → W p l e ({ frames := 3, cells := 0, slots := 0, locals := 74 } : Room) s m ([.ref qy] : List Value).toArray below meth c H locs 0 0 (MQ below (va_Qv (fun (u : (Nat → Int32) × Int32 × Int32 × Int32 × Int32) => Q u.1 u.2.1 u.2.2.1 u.2.2.2.1 u.2.2.2.2) (mBk G A (fun (u : (Nat → Int32) × Int32 × Int32 × Int32 × Int32) => (w0_X6_readAll G qy qyn qyt qyu qyf qyr qyb qyk qyi qyx yn u.1 yu yf yr yb yk yi yx za zs zl u.2.1 u.2.2.1 u.2.2.2.1 u.2.2.2.2))) A) ([.ref qy] : List Value).toArray s 0 0 A) (F0 m 35 ls [])) (yt : Nat → Int32) (zt : Int32) (zg : Int32) (zr : Int32) (zm : Int32) (y1 : Int32) (H : Heap) (locs : List Loc) (ls : Array Slot), (y1 = 0 ∨ y1 = 1) → va_P (gD G) vwCl (w0_X6_readAll G qy qyn qyt qyu qyf qyr qyb qyk qyi qyx yn yt yu yf yr yb yk yi yx za zs zl zt zg zr zm) H → va_D A (w0_X6_readAll G qy qyn qyt qyu qyf qyr qyb qyk qyi qyx yn yt yu yf yr yb yk yi yx za zs zl zt zg zr zm) → va_S A s.heap H locs → lv_has ls 1 [(0, .ref qy)] → wj_n_X6_readAll_68 yn yx zl Q k35 yt zt zg zr zm y1 → W p l e ({ frames := 3, cells := 0, slots := 0, locals := 74 } : Room) s m ([.ref qy] : List Value).toArray below meth c H locs 0 0 (MQ below (va_Qv (fun (u : (Nat → Int32) × Int32 × Int32 × Int32 × Int32) => Q u.1 u.2.1 u.2.2.1 u.2.2.2.1 u.2.2.2.2) (mBk G A (fun (u : (Nat → Int32) × Int32 × Int32 × Int32 × Int32) => (w0_X6_readAll G qy qyn qyt qyu qyf qyr qyb qyk qyi qyx yn u.1 yu yf yr yb yk yi yx za zs zl u.2.1 u.2.2.1 u.2.2.2.1 u.2.2.2.2))) A) ([.ref qy] : List Value).toArray s 0 0 A) (F0 m 68 ls [.int y1, .ref qy]) := by
    intro k35 hk35 yt zt zg zr zm y1 H locs ls hz_y1 hP hD hS hl hw
    unfold wj_n_X6_readAll_68 at hw
    refine kc_v (kr_V [] ⟨hx, hb, hml, hown, hts⟩ (cn_X6_take l G qy qyn qyt qyu qyf qyr qyb qyk qyi qyx yn yt yu yf yr yb yk yi yx za zs zl zt zg zr zm y1 hw H.size) (cwV 1 hts gX6_readAll_X6_take rfl rfl rfl (by decide +kernel) ⟨Nat.le_of_ble_eq_true rfl, Nat.le_of_ble_eq_true rfl⟩) hK hG hP hD hS hA [0, 1, 2, 3, 4, 5, 6, 7, 8, 9] rfl rfl 6 0 rfl rfl rfl hl.1 rfl (Nat.le_of_ble_eq_true rfl) dX6_readAll_68 ⟨Nat.le_of_ble_eq_true rfl, Nat.le_of_ble_eq_true rfl⟩) hP hD hS hA [0, 1, 2, 3, 4, 5, 6, 7, 8, 9] [] rfl rfl rfl (by decide) (fun u H locs hw hP hD hS => ?_)
    obtain ⟨zt_11, zg_12⟩ := u
    try dsimp only at hw
    have hP := hP.sub (ws' := (w0_X6_readAll G qy qyn qyt qyu qyf qyr qyb qyk qyi qyx yn yt yu yf yr yb yk yi yx za zs zl zt_11 zg_12 zr zm)) [0, 1, 2, 3, 4, 5, 6, 7, 8, 9] rfl
    have hD := hD.sub (ws' := (w0_X6_readAll G qy qyn qyt qyu qyf qyr qyb qyk qyi qyx yn yt yu yf yr yb yk yi yx za zs zl zt_11 zg_12 zr zm)) [0, 1, 2, 3, 4, 5, 6, 7, 8, 9] rfl rfl
    refine lv_aload_n hx hb dX6_readAll_71 rfl (lv_at hl 0 rfl) ?_
    refine va_get (D := gD G) (ci := 6) (v := .int zg_12) (C := RX6) (T := TX6) (N := 16) hx hb hts k_X6_readAll_inX6 hown hK hP 0 rfl rfl 13 (by decide) (hts _ k_X6_readAll_f122) (fun _ h9 => h9) rfl dX6_readAll_72 ?_
    refine lv_if_eq (tgt := 35) hx hb dX6_readAll_75 (by decide) (fun cd13 => ?_) (fun cd13 => ?_)
    · have hw := hw.1 cd13
      exact hk35 yt zt_11 zg_12 zr zm _ _ _ hP hD hS hl hw
    · have hw := hw.2 cd13
      refine lv_aload_n hx hb dX6_readAll_78 rfl (lv_at hl 0 rfl) ?_
      refine kc_v (kr_V [] ⟨hx, hb, hml, hown, hts⟩ (cn_X6_readPart l G qy qyn qyt qyu qyf qyr qyb qyk qyi qyx yn yt yu yf yr yb yk yi yx za zs zl zt_11 zg_12 zr zm hw H.size) (cwV 0 hts gX6_readAll_X6_readPart rfl rfl rfl (by decide +kernel) ⟨Nat.le_of_ble_eq_true rfl, Nat.le_of_ble_eq_true rfl⟩) hK hG hP hD hS hA [0, 1, 2, 3, 4, 5, 6, 7, 8, 9] rfl rfl 6 0 rfl rfl rfl hl.1 rfl (Nat.le_of_ble_eq_true rfl) dX6_readAll_79 ⟨Nat.le_of_ble_eq_true rfl, Nat.le_of_ble_eq_true rfl⟩) hP hD hS hA [0, 1, 2, 3, 4, 5, 6, 7, 8, 9] [] rfl rfl rfl (by decide) (fun u H locs hw hP hD hS => ?_)
      obtain ⟨yt_14, zt_15, zg_16, zr_17, zm_18⟩ := u
      try dsimp only at hw
      have hP := hP.sub (ws' := (w0_X6_readAll G qy qyn qyt qyu qyf qyr qyb qyk qyi qyx yn yt_14 yu yf yr yb yk yi yx za zs zl zt_15 zg_16 zr_17 zm_18)) [0, 1, 2, 3, 4, 5, 6, 7, 8, 9] rfl
      have hD := hD.sub (ws' := (w0_X6_readAll G qy qyn qyt qyu qyf qyr qyb qyk qyi qyx yn yt_14 yu yf yr yb yk yi yx za zs zl zt_15 zg_16 zr_17 zm_18)) [0, 1, 2, 3, 4, 5, 6, 7, 8, 9] rfl rfl
      refine lv_goto (tgt := 35) hx hb dX6_readAll_82 (by decide) ?_
      exact hk35 yt_14 zt_15 zg_16 zr_17 zm_18 _ _ _ hP hD hS hl hw
  have J35 : ∀ (n : Nat) (yt : Nat → Int32) (zt : Int32) (zg : Int32) (zr : Int32) (zm : Int32) (H : Heap) (locs : List Loc) (ls : Array Slot), va_P (gD G) vwCl (w0_X6_readAll G qy qyn qyt qyu qyf qyr qyb qyk qyi qyx yn yt yu yf yr yb yk yi yx za zs zl zt zg zr zm) H → va_D A (w0_X6_readAll G qy qyn qyt qyu qyf qyr qyb qyk qyi qyx yn yt yu yf yr yb yk yi yx za zs zl zt zg zr zm) → va_S A s.heap H locs → lv_has ls 1 [(0, .ref qy)] → wl_n_X6_readAll_35 yn yx zl Q n yt zt zg zr zm → W p l e ({ frames := 3, cells := 0, slots := 0, locals := 74 } : Room) s m ([.ref qy] : List Value).toArray below meth c H locs 0 0 (MQ below (va_Qv (fun (u : (Nat → Int32) × Int32 × Int32 × Int32 × Int32) => Q u.1 u.2.1 u.2.2.1 u.2.2.2.1 u.2.2.2.2) (mBk G A (fun (u : (Nat → Int32) × Int32 × Int32 × Int32 × Int32) => (w0_X6_readAll G qy qyn qyt qyu qyf qyr qyb qyk qyi qyx yn u.1 yu yf yr yb yk yi yx za zs zl u.2.1 u.2.2.1 u.2.2.2.1 u.2.2.2.2))) A) ([.ref qy] : List Value).toArray s 0 0 A) (F0 m 35 ls []) := by
    intro n
    induction n with
    | zero => intro yt zt zg zr zm H locs ls hP hD hS hl hw; exact False.elim hw
    | succ n ih =>
      intro yt zt zg zr zm H locs ls hP hD hS hl hw
      rw [wl_n_X6_readAll_35] at hw
      refine lv_aload_n hx hb dX6_readAll_35 rfl (lv_at hl 0 rfl) ?_
      refine va_get (D := gD G) (ci := 6) (v := .int zg) (C := RX6) (T := TX6) (N := 16) hx hb hts k_X6_readAll_inX6 hown hK hP 0 rfl rfl 13 (by decide) (hts _ k_X6_readAll_f122) (fun _ h9 => h9) rfl dX6_readAll_36 ?_
      refine lv_if_eq (tgt := 85) hx hb dX6_readAll_39 (by decide) (fun cd7 => ?_) (fun cd7 => ?_)
      · have hw := hw.1 cd7
        exact fin_v (yt, zt, zg, zr, zm) hx hb hr hlocks hK hS hP hD hw dX6_readAll_85
      · have hw := hw.2 cd7
        refine lv_aload_n hx hb dX6_readAll_42 rfl (lv_at hl 0 rfl) ?_
        refine va_get (D := gD G) (ci := 6) (v := .int zt) (C := RX6) (T := TX6) (N := 16) hx hb hts k_X6_readAll_inX6 hown hK hP 0 rfl rfl 12 (by decide) (hts _ k_X6_readAll_f119) (fun _ h9 => h9) rfl dX6_readAll_43 ?_
        refine lv_aload_n hx hb dX6_readAll_46 rfl (lv_at hl 0 rfl) ?_
        refine va_get (D := gD G) (ci := 6) (v := .int zl) (C := RX6) (T := TX6) (N := 16) hx hb hts k_X6_readAll_inX6 hown hK hP 0 rfl rfl 11 (by decide) (hts _ k_X6_readAll_f116) (fun _ h9 => h9) rfl dX6_readAll_47 ?_
        refine lv_icmp_ge (tgt := 85) hx hb dX6_readAll_50 (by decide) (fun cd8 => ?_) (fun cd8 => ?_)
        · have hw := hw.1 cd8
          exact fin_v (yt, zt, zg, zr, zm) hx hb hr hlocks hK hS hP hD hw dX6_readAll_85
        · have hw := hw.2 cd8
          refine lv_aload_n hx hb dX6_readAll_53 rfl (lv_at hl 0 rfl) ?_
          refine lv_aload_n hx hb dX6_readAll_54 rfl (lv_at hl 0 rfl) ?_
          refine kcR_i (kr_V [.ref qy] ⟨hx, hb, hml, hown, hts⟩ (cn_X6_here l G qy qyn qyt qyu qyf qyr qyb qyk qyi qyx yn yt yu yf yr yb yk yi yx za zs zl zt zg zr zm hw H.size) (cwV 0 hts gX6_readAll_X6_here rfl rfl rfl (by decide +kernel) ⟨Nat.le_of_ble_eq_true rfl, Nat.le_of_ble_eq_true rfl⟩) hK hG hP hD hS hA [0, 1, 2, 3, 4, 5, 6, 7, 8, 9] rfl rfl 6 0 rfl rfl rfl hl.1 rfl (Nat.le_of_ble_eq_true rfl) dX6_readAll_55 ⟨Nat.le_of_ble_eq_true rfl, Nat.le_of_ble_eq_true rfl⟩) hP hD hS hA [0, 1, 2, 3, 4, 5, 6, 7, 8, 9] rfl (fun r9 u H locs hw hP hS => ?_)
          try dsimp only at hw
          refine lv_bipush (v := 59) hx hb dX6_readAll_58 (by decide) ?_
          refine lv_icmp_ne (tgt := 67) hx hb dX6_readAll_60 (by decide) (fun cd10 => ?_) (fun cd10 => ?_)
          · have hw := hw.1 cd10
            refine lv_iconst (v := 0) hx hb dX6_readAll_67 (by decide) ?_
            exact J68 (fun (z0 : Nat → Int32) (z1 : Int32) (z2 : Int32) (z3 : Int32) (z4 : Int32) => wl_n_X6_readAll_35 yn yx zl Q n z0 z1 z2 z3 z4) ih yt zt zg zr zm (0 : Int32) _ _ _ (Or.inl rfl) hP hD hS hl hw
          · have hw := hw.2 cd10
            refine lv_iconst (v := 1) hx hb dX6_readAll_63 (by decide) ?_
            refine lv_goto (tgt := 68) hx hb dX6_readAll_64 (by decide) ?_
            exact J68 (fun (z0 : Nat → Int32) (z1 : Int32) (z2 : Int32) (z3 : Int32) (z4 : Int32) => wl_n_X6_readAll_35 yn yx zl Q n z0 z1 z2 z3 z4) ih yt zt zg zr zm (1 : Int32) _ _ _ (Or.inr rfl) hP hD hS hl hw
  unfold wn_X6_readAll at hw
  refine lv_aload_n hx hb dX6_readAll_0 rfl (lv_at hl 0 rfl) ?_
  refine lv_iconst (v := 0) hx hb dX6_readAll_1 (by decide) ?_
  refine va_put (D := gD G) (ci := 6) (v := .int (0 : Int32)) (ty := .int) (C := RX6) (T := TX6) (N := 16) hx hb hts k_X6_readAll_inX6 tyX6 tyX6_ok nmX6 hown hK hP hD hS 0 rfl rfl 12 (by decide) (hts _ k_X6_readAll_f119) (fun _ h9 => h9) rfl (by decide +kernel) rfl rfl (Nat.le_of_ble_eq_true rfl) dX6_readAll_2 (fun H locs hP hD hS => ?_)
  have hP : va_P (gD G) vwCl (w0_X6_readAll G qy qyn qyt qyu qyf qyr qyb qyk qyi qyx yn yt yu yf yr yb yk yi yx za zs zl (0 : Int32) zg zr zm) H := hP
  have hD : va_D A (w0_X6_readAll G qy qyn qyt qyu qyf qyr qyb qyk qyi qyx yn yt yu yf yr yb yk yi yx za zs zl (0 : Int32) zg zr zm) := hD
  refine lv_aload_n hx hb dX6_readAll_5 rfl (lv_at hl 0 rfl) ?_
  refine lv_iconst (v := 1) hx hb dX6_readAll_6 (by decide) ?_
  refine va_put (D := gD G) (ci := 6) (v := .int (1 : Int32)) (ty := .boolean) (C := RX6) (T := TX6) (N := 16) hx hb hts k_X6_readAll_inX6 tyX6 tyX6_ok nmX6 hown hK hP hD hS 0 rfl rfl 13 (by decide) (hts _ k_X6_readAll_f122) (fun _ h9 => h9) rfl (by decide +kernel) (nz (Or.inr rfl)) (fz (Or.inr rfl)) (Nat.le_of_ble_eq_true rfl) dX6_readAll_7 (fun H locs hP hD hS => ?_)
  have hP : va_P (gD G) vwCl (w0_X6_readAll G qy qyn qyt qyu qyf qyr qyb qyk qyi qyx yn yt yu yf yr yb yk yi yx za zs zl (0 : Int32) (1 : Int32) zr zm) H := hP
  have hD : va_D A (w0_X6_readAll G qy qyn qyt qyu qyf qyr qyb qyk qyi qyx yn yt yu yf yr yb yk yi yx za zs zl (0 : Int32) (1 : Int32) zr zm) := hD
  refine lv_aload_n hx hb dX6_readAll_10 rfl (lv_at hl 0 rfl) ?_
  refine lv_iconst (v := 1) hx hb dX6_readAll_11 (by decide) ?_
  refine va_put (D := gD G) (ci := 6) (v := .int (1 : Int32)) (ty := .boolean) (C := RX6) (T := TX6) (N := 16) hx hb hts k_X6_readAll_inX6 tyX6 tyX6_ok nmX6 hown hK hP hD hS 0 rfl rfl 14 (by decide) (hts _ k_X6_readAll_f138) (fun _ h9 => h9) rfl (by decide +kernel) (nz (Or.inr rfl)) (fz (Or.inr rfl)) (Nat.le_of_ble_eq_true rfl) dX6_readAll_12 (fun H locs hP hD hS => ?_)
  have hP : va_P (gD G) vwCl (w0_X6_readAll G qy qyn qyt qyu qyf qyr qyb qyk qyi qyx yn yt yu yf yr yb yk yi yx za zs zl (0 : Int32) (1 : Int32) (1 : Int32) zm) H := hP
  have hD : va_D A (w0_X6_readAll G qy qyn qyt qyu qyf qyr qyb qyk qyi qyx yn yt yu yf yr yb yk yi yx za zs zl (0 : Int32) (1 : Int32) (1 : Int32) zm) := hD
  refine lv_aload_n hx hb dX6_readAll_15 rfl (lv_at hl 0 rfl) ?_
  refine lv_iconst (v := 0) hx hb dX6_readAll_16 (by decide) ?_
  refine va_put (D := gD G) (ci := 6) (v := .int (0 : Int32)) (ty := .int) (C := RX6) (T := TX6) (N := 16) hx hb hts k_X6_readAll_inX6 tyX6 tyX6_ok nmX6 hown hK hP hD hS 0 rfl rfl 15 (by decide) (hts _ k_X6_readAll_f141) (fun _ h9 => h9) rfl (by decide +kernel) rfl rfl (Nat.le_of_ble_eq_true rfl) dX6_readAll_17 (fun H locs hP hD hS => ?_)
  have hP : va_P (gD G) vwCl (w0_X6_readAll G qy qyn qyt qyu qyf qyr qyb qyk qyi qyx yn yt yu yf yr yb yk yi yx za zs zl (0 : Int32) (1 : Int32) (1 : Int32) (0 : Int32)) H := hP
  have hD : va_D A (w0_X6_readAll G qy qyn qyt qyu qyf qyr qyb qyk qyi qyx yn yt yu yf yr yb yk yi yx za zs zl (0 : Int32) (1 : Int32) (1 : Int32) (0 : Int32)) := hD
  refine lv_aload_n hx hb dX6_readAll_20 rfl (lv_at hl 0 rfl) ?_
  refine va_get (D := gD G) (ci := 6) (v := .ref qyn) (C := RX6) (T := TX6) (N := 16) hx hb hts k_X6_readAll_inX6 hown hK hP 0 rfl rfl 1 (by decide) (hts _ k_X6_readAll_f7) (fun _ h9 => h9) rfl dX6_readAll_21 ?_
  refine lv_aload_n hx hb dX6_readAll_24 rfl (lv_at hl 0 rfl) ?_
  refine va_get (D := gD G) (ci := 6) (v := .ref qyt) (C := RX6) (T := TX6) (N := 16) hx hb hts k_X6_readAll_inX6 hown hK hP 0 rfl rfl 2 (by decide) (hts _ k_X6_readAll_f13) (fun _ h9 => h9) rfl dX6_readAll_25 ?_
  refine kc_v (kr_S [] ⟨hx, hb, hml, hown, hts⟩ (cn_X6_copy l G qyn qyt yn yt hw H.size) (va_cwS 2 hts gX6_readAll_X6_copy rfl rfl rfl (by decide +kernel) ⟨Nat.le_of_ble_eq_true rfl, Nat.le_of_ble_eq_true rfl⟩) hK hG hP hD hS hA [1, 2] rfl rfl rfl hl.1 rfl (Nat.le_of_ble_eq_true rfl) dX6_readAll_28 ⟨Nat.le_of_ble_eq_true rfl, Nat.le_of_ble_eq_true rfl⟩) hP hD hS hA [1, 2] [0, 3, 4, 5, 6, 7, 8, 9] rfl rfl rfl (by decide) (fun u H locs hw hP hD hS => ?_)
  obtain ⟨vv_1, rfl⟩ : ∃ z, z = u := ⟨_, rfl⟩
  try dsimp only at hw
  have hP := hP.sub (ws' := (w0_X6_readAll G qy qyn qyt qyu qyf qyr qyb qyk qyi qyx yn vv_1 yu yf yr yb yk yi yx za zs zl (0 : Int32) (1 : Int32) (1 : Int32) (0 : Int32))) [0, 8, 9, 1, 2, 3, 4, 5, 6, 7] rfl
  have hD := hD.sub (ws' := (w0_X6_readAll G qy qyn qyt qyu qyf qyr qyb qyk qyi qyx yn vv_1 yu yf yr yb yk yi yx za zs zl (0 : Int32) (1 : Int32) (1 : Int32) (0 : Int32))) [0, 8, 9, 1, 2, 3, 4, 5, 6, 7] rfl rfl
  refine lv_aload_n hx hb dX6_readAll_31 rfl (lv_at hl 0 rfl) ?_
  refine kc_v (kr_V [] ⟨hx, hb, hml, hown, hts⟩ (cn_X6_readPart l G qy qyn qyt qyu qyf qyr qyb qyk qyi qyx yn vv_1 yu yf yr yb yk yi yx za zs zl (0 : Int32) (1 : Int32) (1 : Int32) (0 : Int32) hw H.size) (cwV 0 hts gX6_readAll_X6_readPart rfl rfl rfl (by decide +kernel) ⟨Nat.le_of_ble_eq_true rfl, Nat.le_of_ble_eq_true rfl⟩) hK hG hP hD hS hA [0, 1, 2, 3, 4, 5, 6, 7, 8, 9] rfl rfl 6 0 rfl rfl rfl hl.1 rfl (Nat.le_of_ble_eq_true rfl) dX6_readAll_32 ⟨Nat.le_of_ble_eq_true rfl, Nat.le_of_ble_eq_true rfl⟩) hP hD hS hA [0, 1, 2, 3, 4, 5, 6, 7, 8, 9] [] rfl rfl rfl (by decide) (fun u H locs hw hP hD hS => ?_)
  obtain ⟨yt_2, zt_3, zg_4, zr_5, zm_6⟩ := u
  try dsimp only at hw
  have hP := hP.sub (ws' := (w0_X6_readAll G qy qyn qyt qyu qyf qyr qyb qyk qyi qyx yn yt_2 yu yf yr yb yk yi yx za zs zl zt_3 zg_4 zr_5 zm_6)) [0, 1, 2, 3, 4, 5, 6, 7, 8, 9] rfl
  have hD := hD.sub (ws' := (w0_X6_readAll G qy qyn qyt qyu qyf qyr qyb qyk qyi qyx yn yt_2 yu yf yr yb yk yi yx za zs zl zt_3 zg_4 zr_5 zm_6)) [0, 1, 2, 3, 4, 5, 6, 7, 8, 9] rfl rfl
  obtain ⟨n35, hw⟩ := hw
  exact J35 n35 yt_2 zt_3 zg_4 zr_5 zm_6 _ _ _ hP hD hS hl hw

abbrev w0_X6_firstError (G : mG) (qy : Nat) (qyn : Nat) (qyt : Nat) (qyu : Nat) (qyf : Nat) (qyr : Nat) (qyb : Nat) (qyk : Nat) (qyi : Nat) (qyx : Nat) (yn : Nat → Int32) (yt : Nat → Int32) (yu : Nat → Int32) (yf : Nat → Int32) (yr : Nat → Int32) (yb : Nat → Int32) (yk : Nat → Int32) (yi : Nat → Int32) (yx : Nat → Int32) (za : Int32) (zs : Int32) (zl : Int32) (zt : Int32) (zg : Int32) (zr : Int32) (zm : Int32) : va_W := [(qy, .inr (6, [.int za, .ref qyn, .ref qyt, .ref qyu, .ref qyf, .ref qyr, .ref qyb, .int zs, .ref qyk, .ref qyi, .ref qyx, .int zl, .int zt, .int zg, .int zr, .int zm])), (qyn, .inl (gI G, (45, .inl yn))), (qyt, .inl (gI G, (45, .inl yt))), (qyu, .inl (gI G, (16384, .inl yu))), (qyf, .inl (gI G, (14, .inl yf))), (qyr, .inl (gI G, (14, .inl yr))), (qyb, .inl (gI G, (270, .inl yb))), (qyk, .inl (gI G, (90, .inl yk))), (qyi, .inl (gZ G, (2, .inl yi))), (qyx, .inl (gI G, (60, .inl yx)))]
set_option maxRecDepth 100000 in
theorem k_X6_firstError_inX6 : ∀ w ∈ u_ws RX6 TX6 16, w ∈ wsX6_firstError := by decide +kernel
set_option maxRecDepth 100000 in
theorem k_X6_firstError_f38 : Cond.fieldLink RX6 38 "RehearsalRoomModel" "refusal" "I" ∈ wsX6_firstError := by decide +kernel
set_option maxRecDepth 100000 in
theorem k_X6_firstError_f122 : Cond.fieldLink RX6 122 "RehearsalRoomModel" "good" "Z" ∈ wsX6_firstError := by decide +kernel
set_option maxRecDepth 100000 in
theorem k_X6_firstError_f119 : Cond.fieldLink RX6 119 "RehearsalRoomModel" "at" "I" ∈ wsX6_firstError := by decide +kernel
set_option maxRecDepth 100000 in
theorem k_X6_firstError_f116 : Cond.fieldLink RX6 116 "RehearsalRoomModel" "length" "I" ∈ wsX6_firstError := by decide +kernel
set_option maxHeartbeats 8000000 in
set_option maxRecDepth 100000 in
theorem cn_X6_firstError (l : Launch) (G : mG) (qy : Nat) (qyn : Nat) (qyt : Nat) (qyu : Nat) (qyf : Nat) (qyr : Nat) (qyb : Nat) (qyk : Nat) (qyi : Nat) (qyx : Nat) (yn : Nat → Int32) (yt : Nat → Int32) (yu : Nat → Int32) (yf : Nat → Int32) (yr : Nat → Int32) (yb : Nat → Int32) (yk : Nat → Int32) (yi : Nat → Int32) (yx : Nat → Int32) (za : Int32) (zs : Int32) (zl : Int32) (zt : Int32) (zg : Int32) (zr : Int32) (zm : Int32) {Q : Int32 → (Nat → Int32) → Int32 → Int32 → Int32 → Int32 → Int32 → Prop} (hw : wn_X6_firstError yn yt yx za zl zt zg zr zm Q) (sz : Nat) :
    Met l yX6_firstError wsX6_firstError ({ frames := 4, cells := 0, slots := 0, locals := 94 } : Room) (va_Pc [.ref qy] (mPre G (w0_X6_firstError G qy qyn qyt qyu qyf qyr qyb qyk qyi qyx yn yt yu yf yr yb yk yi yx za zs zl zt zg zr zm) sz)) (va_Qi (fun (r : Int32) (u : (Nat → Int32) × Int32 × Int32 × Int32 × Int32 × Int32) => Q r u.1 u.2.1 u.2.2.1 u.2.2.2.1 u.2.2.2.2.1 u.2.2.2.2.2) (mBk G (va_A (w0_X6_firstError G qy qyn qyt qyu qyf qyr qyb qyk qyi qyx yn yt yu yf yr yb yk yi yx za zs zl zt zg zr zm) sz) (fun (u : (Nat → Int32) × Int32 × Int32 × Int32 × Int32 × Int32) => (w0_X6_firstError G qy qyn qyt qyu qyf qyr qyb qyk qyi qyx yn u.1 yu yf yr yb yk yi yx u.2.1 zs zl u.2.2.1 u.2.2.2.1 u.2.2.2.2.1 u.2.2.2.2.2))) (va_A (w0_X6_firstError G qy qyn qyt qyu qyf qyr qyb qyk qyi qyx yn yt yu yf yr yb yk yi yx za zs zl zt zg zr zm) sz)) 0 0 (va_A (w0_X6_firstError G qy qyn qyt qyu qyf qyr qyb qyk qyi qyx yn yt yu yf yr yb yk yi yx za zs zl zt zg zr zm) sz) := by
  refine ms_i (cc := cX6_firstError) (maxL := 1) (ret := some .int) (post := (fun (r : Int32) (u : (Nat → Int32) × Int32 × Int32 × Int32 × Int32 × Int32) => Q r u.1 u.2.1 u.2.2.1 u.2.2.2.1 u.2.2.2.2.1 u.2.2.2.2.2)) (w1 := (fun (u : (Nat → Int32) × Int32 × Int32 × Int32 × Int32 × Int32) => (w0_X6_firstError G qy qyn qyt qyu qyf qyr qyb qyk qyi qyx yn u.1 yu yf yr yb yk yi yx u.2.1 zs zl u.2.2.1 u.2.2.2.1 u.2.2.2.2.1 u.2.2.2.2.2))) (by decide) rfl (Nat.le_of_ble_eq_true rfl) ?_ sz
  intro p e s m below meth c A ls H locs hx hb hr hml hown hts hlocks hK hG hP hD hS hA hl
  have hown : s.vm.findClass RX6 = some m.cls := hown
  have hl : lv_has ls 1 [(0, .ref qy)] := hl
  unfold wn_X6_firstError at hw
  refine lv_aload_n hx hb dX6_firstError_0 rfl (lv_at hl 0 rfl) ?_
  refine lv_iconst (v := 0) hx hb dX6_firstError_1 (by decide) ?_
  refine va_put (D := gD G) (ci := 6) (v := .int (0 : Int32)) (ty := .int) (C := RX6) (T := TX6) (N := 16) hx hb hts k_X6_firstError_inX6 tyX6 tyX6_ok nmX6 hown hK hP hD hS 0 rfl rfl 0 (by decide) (hts _ k_X6_firstError_f38) (fun _ h9 => h9) rfl (by decide +kernel) rfl rfl (Nat.le_of_ble_eq_true rfl) dX6_firstError_2 (fun H locs hP hD hS => ?_)
  have hP : va_P (gD G) vwCl (w0_X6_firstError G qy qyn qyt qyu qyf qyr qyb qyk qyi qyx yn yt yu yf yr yb yk yi yx (0 : Int32) zs zl zt zg zr zm) H := hP
  have hD : va_D A (w0_X6_firstError G qy qyn qyt qyu qyf qyr qyb qyk qyi qyx yn yt yu yf yr yb yk yi yx (0 : Int32) zs zl zt zg zr zm) := hD
  refine lv_aload_n hx hb dX6_firstError_5 rfl (lv_at hl 0 rfl) ?_
  refine kc_v (kr_V [] ⟨hx, hb, hml, hown, hts⟩ (cn_X6_readAll l G qy qyn qyt qyu qyf qyr qyb qyk qyi qyx yn yt yu yf yr yb yk yi yx (0 : Int32) zs zl zt zg zr zm hw H.size) (cwV 0 hts gX6_firstError_X6_readAll rfl rfl rfl (by decide +kernel) ⟨Nat.le_of_ble_eq_true rfl, Nat.le_of_ble_eq_true rfl⟩) hK hG hP hD hS hA [0, 1, 2, 3, 4, 5, 6, 7, 8, 9] rfl rfl 6 0 rfl rfl rfl hl.1 rfl (Nat.le_of_ble_eq_true rfl) dX6_firstError_6 ⟨Nat.le_of_ble_eq_true rfl, Nat.le_of_ble_eq_true rfl⟩) hP hD hS hA [0, 1, 2, 3, 4, 5, 6, 7, 8, 9] [] rfl rfl rfl (by decide) (fun u H locs hw hP hD hS => ?_)
  obtain ⟨yt_1, zt_2, zg_3, zr_4, zm_5⟩ := u
  try dsimp only at hw
  have hP := hP.sub (ws' := (w0_X6_firstError G qy qyn qyt qyu qyf qyr qyb qyk qyi qyx yn yt_1 yu yf yr yb yk yi yx (0 : Int32) zs zl zt_2 zg_3 zr_4 zm_5)) [0, 1, 2, 3, 4, 5, 6, 7, 8, 9] rfl
  have hD := hD.sub (ws' := (w0_X6_firstError G qy qyn qyt qyu qyf qyr qyb qyk qyi qyx yn yt_1 yu yf yr yb yk yi yx (0 : Int32) zs zl zt_2 zg_3 zr_4 zm_5)) [0, 1, 2, 3, 4, 5, 6, 7, 8, 9] rfl rfl
  refine lv_aload_n hx hb dX6_firstError_9 rfl (lv_at hl 0 rfl) ?_
  refine va_get (D := gD G) (ci := 6) (v := .int zg_3) (C := RX6) (T := TX6) (N := 16) hx hb hts k_X6_firstError_inX6 hown hK hP 0 rfl rfl 13 (by decide) (hts _ k_X6_firstError_f122) (fun _ h9 => h9) rfl dX6_firstError_10 ?_
  refine lv_if_eq (tgt := 23) hx hb dX6_firstError_13 (by decide) (fun cd6 => ?_) (fun cd6 => ?_)
  · have hw := hw.1 cd6
    refine lv_aload_n hx hb dX6_firstError_23 rfl (lv_at hl 0 rfl) ?_
    refine va_get (D := gD G) (ci := 6) (v := .int zt_2) (C := RX6) (T := TX6) (N := 16) hx hb hts k_X6_firstError_inX6 hown hK hP 0 rfl rfl 12 (by decide) (hts _ k_X6_firstError_f119) (fun _ h9 => h9) rfl dX6_firstError_24 ?_
    exact fin_i (yt_1, (0 : Int32), zt_2, zg_3, zr_4, zm_5) hx hb hr hlocks hK hS hP hD hw dX6_firstError_27
  · have hw := hw.2 cd6
    refine lv_aload_n hx hb dX6_firstError_16 rfl (lv_at hl 0 rfl) ?_
    refine va_get (D := gD G) (ci := 6) (v := .int zl) (C := RX6) (T := TX6) (N := 16) hx hb hts k_X6_firstError_inX6 hown hK hP 0 rfl rfl 11 (by decide) (hts _ k_X6_firstError_f116) (fun _ h9 => h9) rfl dX6_firstError_17 ?_
    refine lv_goto (tgt := 27) hx hb dX6_firstError_20 (by decide) ?_
    exact fin_i (yt_1, (0 : Int32), zt_2, zg_3, zr_4, zm_5) hx hb hr hlocks hK hS hP hD hw dX6_firstError_27

abbrev w0_X6_read (G : mG) (qy : Nat) (qyn : Nat) (qyt : Nat) (qyu : Nat) (qyf : Nat) (qyr : Nat) (qyb : Nat) (qyk : Nat) (qyi : Nat) (qyx : Nat) (yn : Nat → Int32) (yt : Nat → Int32) (yu : Nat → Int32) (yf : Nat → Int32) (yr : Nat → Int32) (yb : Nat → Int32) (yk : Nat → Int32) (yi : Nat → Int32) (yx : Nat → Int32) (za : Int32) (zs : Int32) (zl : Int32) (zt : Int32) (zg : Int32) (zr : Int32) (zm : Int32) : va_W := [(qy, .inr (6, [.int za, .ref qyn, .ref qyt, .ref qyu, .ref qyf, .ref qyr, .ref qyb, .int zs, .ref qyk, .ref qyi, .ref qyx, .int zl, .int zt, .int zg, .int zr, .int zm])), (qyn, .inl (gI G, (45, .inl yn))), (qyt, .inl (gI G, (45, .inl yt))), (qyu, .inl (gI G, (16384, .inl yu))), (qyf, .inl (gI G, (14, .inl yf))), (qyr, .inl (gI G, (14, .inl yr))), (qyb, .inl (gI G, (270, .inl yb))), (qyk, .inl (gI G, (90, .inl yk))), (qyi, .inl (gZ G, (2, .inl yi))), (qyx, .inl (gI G, (60, .inl yx)))]
set_option maxRecDepth 100000 in
theorem k_X6_read_inX6 : ∀ w ∈ u_ws RX6 TX6 16, w ∈ wsX6_read := by decide +kernel
set_option maxRecDepth 100000 in
theorem k_X6_read_f122 : Cond.fieldLink RX6 122 "RehearsalRoomModel" "good" "Z" ∈ wsX6_read := by decide +kernel
set_option maxRecDepth 100000 in
theorem k_X6_read_f13 : Cond.fieldLink RX6 13 "RehearsalRoomModel" "trial" "[I" ∈ wsX6_read := by decide +kernel
set_option maxRecDepth 100000 in
theorem k_X6_read_f7 : Cond.fieldLink RX6 7 "RehearsalRoomModel" "now" "[I" ∈ wsX6_read := by decide +kernel
set_option maxRecDepth 100000 in
theorem k_X6_read_f116 : Cond.fieldLink RX6 116 "RehearsalRoomModel" "length" "I" ∈ wsX6_read := by decide +kernel
set_option maxRecDepth 100000 in
theorem k_X6_read_f138 : Cond.fieldLink RX6 138 "RehearsalRoomModel" "ranged" "Z" ∈ wsX6_read := by decide +kernel
set_option maxRecDepth 100000 in
theorem k_X6_read_f141 : Cond.fieldLink RX6 141 "RehearsalRoomModel" "more" "I" ∈ wsX6_read := by decide +kernel
set_option maxHeartbeats 8000000 in
set_option maxRecDepth 100000 in
theorem cn_X6_read (l : Launch) (G : mG) (qy : Nat) (qyn : Nat) (qyt : Nat) (qyu : Nat) (qyf : Nat) (qyr : Nat) (qyb : Nat) (qyk : Nat) (qyi : Nat) (qyx : Nat) (yn : Nat → Int32) (yt : Nat → Int32) (yu : Nat → Int32) (yf : Nat → Int32) (yr : Nat → Int32) (yb : Nat → Int32) (yk : Nat → Int32) (yi : Nat → Int32) (yx : Nat → Int32) (za : Int32) (zs : Int32) (zl : Int32) (zt : Int32) (zg : Int32) (zr : Int32) (zm : Int32) {Q : Int32 → (Nat → Int32) → (Nat → Int32) → (Nat → Int32) → Int32 → Int32 → Int32 → Int32 → Int32 → Int32 → Int32 → Prop} (hw : wn_X6_read yn yt yb yx za zs zl zt zg zr zm Q) (sz : Nat) :
    Met l yX6_read wsX6_read ({ frames := 4, cells := 0, slots := 0, locals := 94 } : Room) (va_Pc [.ref qy] (mPre G (w0_X6_read G qy qyn qyt qyu qyf qyr qyb qyk qyi qyx yn yt yu yf yr yb yk yi yx za zs zl zt zg zr zm) sz)) (va_Qi (fun (r : Int32) (u : (Nat → Int32) × (Nat → Int32) × (Nat → Int32) × Int32 × Int32 × Int32 × Int32 × Int32 × Int32 × Int32) => Q r u.1 u.2.1 u.2.2.1 u.2.2.2.1 u.2.2.2.2.1 u.2.2.2.2.2.1 u.2.2.2.2.2.2.1 u.2.2.2.2.2.2.2.1 u.2.2.2.2.2.2.2.2.1 u.2.2.2.2.2.2.2.2.2) (mBk G (va_A (w0_X6_read G qy qyn qyt qyu qyf qyr qyb qyk qyi qyx yn yt yu yf yr yb yk yi yx za zs zl zt zg zr zm) sz) (fun (u : (Nat → Int32) × (Nat → Int32) × (Nat → Int32) × Int32 × Int32 × Int32 × Int32 × Int32 × Int32 × Int32) => (w0_X6_read G qy qyn qyt qyu qyf qyr qyb qyk qyi qyx u.1 u.2.1 yu yf yr u.2.2.1 yk yi yx u.2.2.2.1 u.2.2.2.2.1 u.2.2.2.2.2.1 u.2.2.2.2.2.2.1 u.2.2.2.2.2.2.2.1 u.2.2.2.2.2.2.2.2.1 u.2.2.2.2.2.2.2.2.2))) (va_A (w0_X6_read G qy qyn qyt qyu qyf qyr qyb qyk qyi qyx yn yt yu yf yr yb yk yi yx za zs zl zt zg zr zm) sz)) 0 0 (va_A (w0_X6_read G qy qyn qyt qyu qyf qyr qyb qyk qyi qyx yn yt yu yf yr yb yk yi yx za zs zl zt zg zr zm) sz) := by
  refine ms_i (cc := cX6_read) (maxL := 1) (ret := some .int) (post := (fun (r : Int32) (u : (Nat → Int32) × (Nat → Int32) × (Nat → Int32) × Int32 × Int32 × Int32 × Int32 × Int32 × Int32 × Int32) => Q r u.1 u.2.1 u.2.2.1 u.2.2.2.1 u.2.2.2.2.1 u.2.2.2.2.2.1 u.2.2.2.2.2.2.1 u.2.2.2.2.2.2.2.1 u.2.2.2.2.2.2.2.2.1 u.2.2.2.2.2.2.2.2.2)) (w1 := (fun (u : (Nat → Int32) × (Nat → Int32) × (Nat → Int32) × Int32 × Int32 × Int32 × Int32 × Int32 × Int32 × Int32) => (w0_X6_read G qy qyn qyt qyu qyf qyr qyb qyk qyi qyx u.1 u.2.1 yu yf yr u.2.2.1 yk yi yx u.2.2.2.1 u.2.2.2.2.1 u.2.2.2.2.2.1 u.2.2.2.2.2.2.1 u.2.2.2.2.2.2.2.1 u.2.2.2.2.2.2.2.2.1 u.2.2.2.2.2.2.2.2.2))) (by decide) rfl (Nat.le_of_ble_eq_true rfl) ?_ sz
  intro p e s m below meth c A ls H locs hx hb hr hml hown hts hlocks hK hG hP hD hS hA hl
  have hown : s.vm.findClass RX6 = some m.cls := hown
  have hl : lv_has ls 1 [(0, .ref qy)] := hl
  have J45 : ∀ (yn : Nat → Int32) (yt : Nat → Int32) (yb : Nat → Int32) (za : Int32) (zs : Int32) (zl : Int32) (zt : Int32) (zg : Int32) (zr : Int32) (zm : Int32) (y1 : Int32) (H : Heap) (locs : List Loc) (ls : Array Slot), va_P (gD G) vwCl (w0_X6_read G qy qyn qyt qyu qyf qyr qyb qyk qyi qyx yn yt yu yf yr yb yk yi yx za zs zl zt zg zr zm) H → va_D A (w0_X6_read G qy qyn qyt qyu qyf qyr qyb qyk qyi qyx yn yt yu yf yr yb yk yi yx za zs zl zt zg zr zm) → va_S A s.heap H locs → lv_has ls 1 [(0, .ref qy)] → wj_n_X6_read_45 yx Q yn yt yb za zs zl zt zg zr zm y1 → W p l e ({ frames := 4, cells := 0, slots := 0, locals := 94 } : Room) s m ([.ref qy] : List Value).toArray below meth c H locs 0 0 (MQ below (va_Qi (fun (r : Int32) (u : (Nat → Int32) × (Nat → Int32) × (Nat → Int32) × Int32 × Int32 × Int32 × Int32 × Int32 × Int32 × Int32) => Q r u.1 u.2.1 u.2.2.1 u.2.2.2.1 u.2.2.2.2.1 u.2.2.2.2.2.1 u.2.2.2.2.2.2.1 u.2.2.2.2.2.2.2.1 u.2.2.2.2.2.2.2.2.1 u.2.2.2.2.2.2.2.2.2) (mBk G A (fun (u : (Nat → Int32) × (Nat → Int32) × (Nat → Int32) × Int32 × Int32 × Int32 × Int32 × Int32 × Int32 × Int32) => (w0_X6_read G qy qyn qyt qyu qyf qyr qyb qyk qyi qyx u.1 u.2.1 yu yf yr u.2.2.1 yk yi yx u.2.2.2.1 u.2.2.2.2.1 u.2.2.2.2.2.1 u.2.2.2.2.2.2.1 u.2.2.2.2.2.2.2.1 u.2.2.2.2.2.2.2.2.1 u.2.2.2.2.2.2.2.2.2))) A) ([.ref qy] : List Value).toArray s 0 0 A) (F0 m 45 ls [.int y1, .ref qy]) := by
    intro yn yt yb za zs zl zt zg zr zm y1 H locs ls hP hD hS hl hw
    unfold wj_n_X6_read_45 at hw
    refine kc_i (kr_V [] ⟨hx, hb, hml, hown, hts⟩ (cn_X6_refused l G qy qyn qyt qyu qyf qyr qyb qyk qyi qyx yn yt yu yf yr yb yk yi yx za zs zl zt zg zr zm y1 hw H.size) (cwV 1 hts gX6_read_X6_refused rfl rfl rfl (by decide +kernel) ⟨Nat.le_of_ble_eq_true rfl, Nat.le_of_ble_eq_true rfl⟩) hK hG hP hD hS hA [0, 1, 2, 3, 4, 5, 6, 7, 8, 9] rfl rfl 6 0 rfl rfl rfl hl.1 rfl (Nat.le_of_ble_eq_true rfl) dX6_read_45 ⟨Nat.le_of_ble_eq_true rfl, Nat.le_of_ble_eq_true rfl⟩) hP hD hS hA [0, 1, 2, 3, 4, 5, 6, 7, 8, 9] [] rfl rfl rfl (by decide) (fun r7 u H locs hw hP hD hS => ?_)
    obtain ⟨za_8, rfl⟩ : ∃ z, z = u := ⟨_, rfl⟩
    try dsimp only at hw
    have hP := hP.sub (ws' := (w0_X6_read G qy qyn qyt qyu qyf qyr qyb qyk qyi qyx yn yt yu yf yr yb yk yi yx za_8 zs zl zt zg zr zm)) [0, 1, 2, 3, 4, 5, 6, 7, 8, 9] rfl
    have hD := hD.sub (ws' := (w0_X6_read G qy qyn qyt qyu qyf qyr qyb qyk qyi qyx yn yt yu yf yr yb yk yi yx za_8 zs zl zt zg zr zm)) [0, 1, 2, 3, 4, 5, 6, 7, 8, 9] rfl rfl
    obtain ⟨hz_r7, hw⟩ := hw
    refine lv_if_eq (tgt := 53) hx hb dX6_read_48 (by decide) (fun cd9 => ?_) (fun cd9 => ?_)
    · have hw := hw.1 cd9
      refine lv_aload_n hx hb dX6_read_53 rfl (lv_at hl 0 rfl) ?_
      refine kc_v (kr_V [] ⟨hx, hb, hml, hown, hts⟩ (cn_X6_save l G qy qyn qyt qyu qyf qyr qyb qyk qyi qyx yn yt yu yf yr yb yk yi yx za_8 zs zl zt zg zr zm hw H.size) (cwV 0 hts gX6_read_X6_save rfl rfl rfl (by decide +kernel) ⟨Nat.le_of_ble_eq_true rfl, Nat.le_of_ble_eq_true rfl⟩) hK hG hP hD hS hA [0, 1, 2, 3, 4, 5, 6, 7, 8, 9] rfl rfl 6 0 rfl rfl rfl hl.1 rfl (Nat.le_of_ble_eq_true rfl) dX6_read_54 ⟨Nat.le_of_ble_eq_true rfl, Nat.le_of_ble_eq_true rfl⟩) hP hD hS hA [0, 1, 2, 3, 4, 5, 6, 7, 8, 9] [] rfl rfl rfl (by decide) (fun u H locs hw hP hD hS => ?_)
      obtain ⟨yb_10, zs_11⟩ := u
      try dsimp only at hw
      have hP := hP.sub (ws' := (w0_X6_read G qy qyn qyt qyu qyf qyr qyb qyk qyi qyx yn yt yu yf yr yb_10 yk yi yx za_8 zs_11 zl zt zg zr zm)) [0, 1, 2, 3, 4, 5, 6, 7, 8, 9] rfl
      have hD := hD.sub (ws' := (w0_X6_read G qy qyn qyt qyu qyf qyr qyb qyk qyi qyx yn yt yu yf yr yb_10 yk yi yx za_8 zs_11 zl zt zg zr zm)) [0, 1, 2, 3, 4, 5, 6, 7, 8, 9] rfl rfl
      refine lv_aload_n hx hb dX6_read_57 rfl (lv_at hl 0 rfl) ?_
      refine va_get (D := gD G) (ci := 6) (v := .ref qyt) (C := RX6) (T := TX6) (N := 16) hx hb hts k_X6_read_inX6 hown hK hP 0 rfl rfl 2 (by decide) (hts _ k_X6_read_f13) (fun _ h9 => h9) rfl dX6_read_58 ?_
      refine lv_aload_n hx hb dX6_read_61 rfl (lv_at hl 0 rfl) ?_
      refine va_get (D := gD G) (ci := 6) (v := .ref qyn) (C := RX6) (T := TX6) (N := 16) hx hb hts k_X6_read_inX6 hown hK hP 0 rfl rfl 1 (by decide) (hts _ k_X6_read_f7) (fun _ h9 => h9) rfl dX6_read_62 ?_
      refine kc_v (kr_S [] ⟨hx, hb, hml, hown, hts⟩ (cn_X6_copy l G qyt qyn yt yn hw H.size) (va_cwS 2 hts gX6_read_X6_copy rfl rfl rfl (by decide +kernel) ⟨Nat.le_of_ble_eq_true rfl, Nat.le_of_ble_eq_true rfl⟩) hK hG hP hD hS hA [2, 1] rfl rfl rfl hl.1 rfl (Nat.le_of_ble_eq_true rfl) dX6_read_65 ⟨Nat.le_of_ble_eq_true rfl, Nat.le_of_ble_eq_true rfl⟩) hP hD hS hA [2, 1] [0, 3, 4, 5, 6, 7, 8, 9] rfl rfl rfl (by decide) (fun u H locs hw hP hD hS => ?_)
      obtain ⟨vv_12, rfl⟩ : ∃ z, z = u := ⟨_, rfl⟩
      try dsimp only at hw
      have hP := hP.sub (ws' := (w0_X6_read G qy qyn qyt qyu qyf qyr qyb qyk qyi qyx vv_12 yt yu yf yr yb_10 yk yi yx za_8 zs_11 zl zt zg zr zm)) [0, 9, 8, 1, 2, 3, 4, 5, 6, 7] rfl
      have hD := hD.sub (ws' := (w0_X6_read G qy qyn qyt qyu qyf qyr qyb qyk qyi qyx vv_12 yt yu yf yr yb_10 yk yi yx za_8 zs_11 zl zt zg zr zm)) [0, 9, 8, 1, 2, 3, 4, 5, 6, 7] rfl rfl
      refine lv_aload_n hx hb dX6_read_68 rfl (lv_at hl 0 rfl) ?_
      refine lv_iconst (v := 0) hx hb dX6_read_69 (by decide) ?_
      refine va_put (D := gD G) (ci := 6) (v := .int (0 : Int32)) (ty := .int) (C := RX6) (T := TX6) (N := 16) hx hb hts k_X6_read_inX6 tyX6 tyX6_ok nmX6 hown hK hP hD hS 0 rfl rfl 11 (by decide) (hts _ k_X6_read_f116) (fun _ h9 => h9) rfl (by decide +kernel) rfl rfl (Nat.le_of_ble_eq_true rfl) dX6_read_70 (fun H locs hP hD hS => ?_)
      have hP : va_P (gD G) vwCl (w0_X6_read G qy qyn qyt qyu qyf qyr qyb qyk qyi qyx vv_12 yt yu yf yr yb_10 yk yi yx za_8 zs_11 (0 : Int32) zt zg zr zm) H := hP
      have hD : va_D A (w0_X6_read G qy qyn qyt qyu qyf qyr qyb qyk qyi qyx vv_12 yt yu yf yr yb_10 yk yi yx za_8 zs_11 (0 : Int32) zt zg zr zm) := hD
      refine lv_aload_n hx hb dX6_read_73 rfl (lv_at hl 0 rfl) ?_
      refine va_get (D := gD G) (ci := 6) (v := .ref qyn) (C := RX6) (T := TX6) (N := 16) hx hb hts k_X6_read_inX6 hown hK hP 0 rfl rfl 1 (by decide) (hts _ k_X6_read_f7) (fun _ h9 => h9) rfl dX6_read_74 ?_
      refine lv_bipush (v := 44) hx hb dX6_read_77 (by decide) ?_
      obtain ⟨h13, hw⟩ := hw
      refine va_iald hx hb hK hP 1 0 rfl rfl h13 dX6_read_79 ?_
      exact fin_i (vv_12, yt, yb_10, za_8, zs_11, (0 : Int32), zt, zg, zr, zm) hx hb hr hlocks hK hS hP hD hw dX6_read_80
    · have hw := hw.2 cd9
      refine lv_iconst (v := 0) hx hb dX6_read_51 (by decide) ?_
      exact fin_i (yn, yt, yb, za_8, zs, zl, zt, zg, zr, zm) hx hb hr hlocks hK hS hP hD hw dX6_read_52
  have J19 : ∀ (yn : Nat → Int32) (yt : Nat → Int32) (yb : Nat → Int32) (za : Int32) (zs : Int32) (zl : Int32) (zt : Int32) (zg : Int32) (zr : Int32) (zm : Int32) (H : Heap) (locs : List Loc) (ls : Array Slot), va_P (gD G) vwCl (w0_X6_read G qy qyn qyt qyu qyf qyr qyb qyk qyi qyx yn yt yu yf yr yb yk yi yx za zs zl zt zg zr zm) H → va_D A (w0_X6_read G qy qyn qyt qyu qyf qyr qyb qyk qyi qyx yn yt yu yf yr yb yk yi yx za zs zl zt zg zr zm) → va_S A s.heap H locs → lv_has ls 1 [(0, .ref qy)] → wj_n_X6_read_19 yx Q yn yt yb za zs zl zt zg zr zm → W p l e ({ frames := 4, cells := 0, slots := 0, locals := 94 } : Room) s m ([.ref qy] : List Value).toArray below meth c H locs 0 0 (MQ below (va_Qi (fun (r : Int32) (u : (Nat → Int32) × (Nat → Int32) × (Nat → Int32) × Int32 × Int32 × Int32 × Int32 × Int32 × Int32 × Int32) => Q r u.1 u.2.1 u.2.2.1 u.2.2.2.1 u.2.2.2.2.1 u.2.2.2.2.2.1 u.2.2.2.2.2.2.1 u.2.2.2.2.2.2.2.1 u.2.2.2.2.2.2.2.2.1 u.2.2.2.2.2.2.2.2.2) (mBk G A (fun (u : (Nat → Int32) × (Nat → Int32) × (Nat → Int32) × Int32 × Int32 × Int32 × Int32 × Int32 × Int32 × Int32) => (w0_X6_read G qy qyn qyt qyu qyf qyr qyb qyk qyi qyx u.1 u.2.1 yu yf yr u.2.2.1 yk yi yx u.2.2.2.1 u.2.2.2.2.1 u.2.2.2.2.2.1 u.2.2.2.2.2.2.1 u.2.2.2.2.2.2.2.1 u.2.2.2.2.2.2.2.2.1 u.2.2.2.2.2.2.2.2.2))) A) ([.ref qy] : List Value).toArray s 0 0 A) (F0 m 19 ls [.ref qy]) := by
    intro yn yt yb za zs zl zt zg zr zm H locs ls hP hD hS hl hw
    unfold wj_n_X6_read_19 at hw
    refine lv_iconst (v := 1) hx hb dX6_read_19 (by decide) ?_
    refine lv_goto (tgt := 45) hx hb dX6_read_20 (by decide) ?_
    exact J45 yn yt yb za zs zl zt zg zr zm (1 : Int32) _ _ _ hP hD hS hl hw
  unfold wn_X6_read at hw
  refine lv_aload_n hx hb dX6_read_0 rfl (lv_at hl 0 rfl) ?_
  refine kc_v (kr_V [] ⟨hx, hb, hml, hown, hts⟩ (cn_X6_readAll l G qy qyn qyt qyu qyf qyr qyb qyk qyi qyx yn yt yu yf yr yb yk yi yx za zs zl zt zg zr zm hw H.size) (cwV 0 hts gX6_read_X6_readAll rfl rfl rfl (by decide +kernel) ⟨Nat.le_of_ble_eq_true rfl, Nat.le_of_ble_eq_true rfl⟩) hK hG hP hD hS hA [0, 1, 2, 3, 4, 5, 6, 7, 8, 9] rfl rfl 6 0 rfl rfl rfl hl.1 rfl (Nat.le_of_ble_eq_true rfl) dX6_read_1 ⟨Nat.le_of_ble_eq_true rfl, Nat.le_of_ble_eq_true rfl⟩) hP hD hS hA [0, 1, 2, 3, 4, 5, 6, 7, 8, 9] [] rfl rfl rfl (by decide) (fun u H locs hw hP hD hS => ?_)
  obtain ⟨yt_1, zt_2, zg_3, zr_4, zm_5⟩ := u
  try dsimp only at hw
  have hP := hP.sub (ws' := (w0_X6_read G qy qyn qyt qyu qyf qyr qyb qyk qyi qyx yn yt_1 yu yf yr yb yk yi yx za zs zl zt_2 zg_3 zr_4 zm_5)) [0, 1, 2, 3, 4, 5, 6, 7, 8, 9] rfl
  have hD := hD.sub (ws' := (w0_X6_read G qy qyn qyt qyu qyf qyr qyb qyk qyi qyx yn yt_1 yu yf yr yb yk yi yx za zs zl zt_2 zg_3 zr_4 zm_5)) [0, 1, 2, 3, 4, 5, 6, 7, 8, 9] rfl rfl
  refine lv_aload_n hx hb dX6_read_4 rfl (lv_at hl 0 rfl) ?_
  refine lv_aload_n hx hb dX6_read_5 rfl (lv_at hl 0 rfl) ?_
  refine va_get (D := gD G) (ci := 6) (v := .int zg_3) (C := RX6) (T := TX6) (N := 16) hx hb hts k_X6_read_inX6 hown hK hP 0 rfl rfl 13 (by decide) (hts _ k_X6_read_f122) (fun _ h9 => h9) rfl dX6_read_6 ?_
  refine lv_if_eq (tgt := 19) hx hb dX6_read_9 (by decide) (fun cd6 => ?_) (fun cd6 => ?_)
  · have hw := hw.1 cd6
    exact J19 yn yt_1 yb za zs zl zt_2 zg_3 zr_4 zm_5 _ _ _ hP hD hS hl hw
  · have hw := hw.2 cd6
    refine lv_aload_n hx hb dX6_read_12 rfl (lv_at hl 0 rfl) ?_
    refine va_get (D := gD G) (ci := 6) (v := .int zr_4) (C := RX6) (T := TX6) (N := 16) hx hb hts k_X6_read_inX6 hown hK hP 0 rfl rfl 14 (by decide) (hts _ k_X6_read_f138) (fun _ h9 => h9) rfl dX6_read_13 ?_
    refine lv_if_ne (tgt := 23) hx hb dX6_read_16 (by decide) (fun cd14 => ?_) (fun cd14 => ?_)
    · have hw := hw.1 cd14
      refine lv_aload_n hx hb dX6_read_23 rfl (lv_at hl 0 rfl) ?_
      refine va_get (D := gD G) (ci := 6) (v := .ref qyn) (C := RX6) (T := TX6) (N := 16) hx hb hts k_X6_read_inX6 hown hK hP 0 rfl rfl 1 (by decide) (hts _ k_X6_read_f7) (fun _ h9 => h9) rfl dX6_read_24 ?_
      refine lv_bipush (v := 44) hx hb dX6_read_27 (by decide) ?_
      obtain ⟨h15, hw⟩ := hw
      refine va_iald hx hb hK hP 1 0 rfl rfl h15 dX6_read_29 ?_
      refine lv_aload_n hx hb dX6_read_30 rfl (lv_at hl 0 rfl) ?_
      refine va_get (D := gD G) (ci := 6) (v := .int zm_5) (C := RX6) (T := TX6) (N := 16) hx hb hts k_X6_read_inX6 hown hK hP 0 rfl rfl 15 (by decide) (hts _ k_X6_read_f141) (fun _ h9 => h9) rfl dX6_read_31 ?_
      refine lv_iadd hx hb dX6_read_34 ?_
      refine lv_bipush (v := 14) hx hb dX6_read_35 (by decide) ?_
      refine lv_icmp_le (tgt := 44) hx hb dX6_read_37 (by decide) (fun cd16 => ?_) (fun cd16 => ?_)
      · have hw := hw.1 cd16
        refine lv_iconst (v := 0) hx hb dX6_read_44 (by decide) ?_
        exact J45 yn yt_1 yb za zs zl zt_2 zg_3 zr_4 zm_5 (0 : Int32) _ _ _ hP hD hS hl hw
      · have hw := hw.2 cd16
        refine lv_iconst (v := 2) hx hb dX6_read_40 (by decide) ?_
        refine lv_goto (tgt := 45) hx hb dX6_read_41 (by decide) ?_
        exact J45 yn yt_1 yb za zs zl zt_2 zg_3 zr_4 zm_5 (2 : Int32) _ _ _ hP hD hS hl hw
    · have hw := hw.2 cd14
      exact J19 yn yt_1 yb za zs zl zt_2 zg_3 zr_4 zm_5 _ _ _ hP hD hS hl hw

abbrev w0_X6_isSlot (G : mG) : va_W := []
set_option maxHeartbeats 8000000 in
set_option maxRecDepth 100000 in
theorem cn_X6_isSlot (l : Launch) (G : mG) (a0 : Int32) {Q : Int32 → Prop} (hw : wn_X6_isSlot a0 Q) (sz : Nat) :
    Met l yX6_isSlot wsX6_isSlot ({ frames := 1, cells := 0, slots := 0, locals := 25 } : Room) (va_Pc [.int a0] (mPre G (w0_X6_isSlot G) sz)) (va_Qi (fun (r : Int32) (u : Unit) => (r = 0 ∨ r = 1) ∧ Q r) (mBk G (va_A (w0_X6_isSlot G) sz) (fun (u : Unit) => (w0_X6_isSlot G))) (va_A (w0_X6_isSlot G) sz)) 0 0 (va_A (w0_X6_isSlot G) sz) := by
  refine ms_i (cc := cX6_isSlot) (maxL := 1) (ret := some .boolean) (post := (fun (r : Int32) (u : Unit) => (r = 0 ∨ r = 1) ∧ Q r)) (w1 := (fun (u : Unit) => (w0_X6_isSlot G))) (by decide) rfl (Nat.le_of_ble_eq_true rfl) ?_ sz
  intro p e s m below meth c A ls H locs hx hb hr hml hown hts hlocks hK hG hP hD hS hA hl
  have hown : s.vm.findClass RX6 = some m.cls := hown
  have hl : lv_has ls 1 [(0, .int a0)] := hl
  unfold wn_X6_isSlot at hw
  refine lv_iload_n hx hb dX6_isSlot_0 rfl (lv_at hl 0 rfl) ?_
  refine lv_i2l hx hb dX6_isSlot_1 rfl ?_
  refine lv_lconst (v := 0) hx hb dX6_isSlot_2 (by decide) ?_
  refine lv_lconst (v := 1) hx hb dX6_isSlot_3 (by decide) ?_
  refine kcR_i (kr_S [] ⟨hx, hb, hml, hown, hts⟩ (cn_X6_in l G a0.toInt64 (0 : Int64) (1 : Int64) hw H.size) (va_cwS 3 hts gX6_isSlot_X6_in rfl rfl rfl (by decide +kernel) ⟨Nat.le_of_ble_eq_true rfl, Nat.le_of_ble_eq_true rfl⟩) hK hG hP hD hS hA [] rfl rfl rfl hl.1 rfl (Nat.le_of_ble_eq_true rfl) dX6_isSlot_4 ⟨Nat.le_of_ble_eq_true rfl, Nat.le_of_ble_eq_true rfl⟩) hP hD hS hA [] rfl (fun r1 u H locs hw hP hS => ?_)
  try dsimp only at hw
  obtain ⟨hz_r1, hw⟩ := hw
  exact fin_z () hx hb hr (nz hz_r1) hlocks hK hS hP hD ⟨hz_r1, hw⟩ dX6_isSlot_7

abbrev w0_X6_keep (G : mG) (qy : Nat) (qyn : Nat) (qyt : Nat) (qyu : Nat) (qyf : Nat) (qyr : Nat) (qyb : Nat) (qyk : Nat) (qyi : Nat) (qyx : Nat) (yn : Nat → Int32) (yt : Nat → Int32) (yu : Nat → Int32) (yf : Nat → Int32) (yr : Nat → Int32) (yb : Nat → Int32) (yk : Nat → Int32) (yi : Nat → Int32) (yx : Nat → Int32) (za : Int32) (zs : Int32) (zl : Int32) (zt : Int32) (zg : Int32) (zr : Int32) (zm : Int32) : va_W := [(qy, .inr (6, [.int za, .ref qyn, .ref qyt, .ref qyu, .ref qyf, .ref qyr, .ref qyb, .int zs, .ref qyk, .ref qyi, .ref qyx, .int zl, .int zt, .int zg, .int zr, .int zm])), (qyn, .inl (gI G, (45, .inl yn))), (qyt, .inl (gI G, (45, .inl yt))), (qyu, .inl (gI G, (16384, .inl yu))), (qyf, .inl (gI G, (14, .inl yf))), (qyr, .inl (gI G, (14, .inl yr))), (qyb, .inl (gI G, (270, .inl yb))), (qyk, .inl (gI G, (90, .inl yk))), (qyi, .inl (gZ G, (2, .inl yi))), (qyx, .inl (gI G, (60, .inl yx)))]
set_option maxRecDepth 100000 in
theorem k_X6_keep_inX6 : ∀ w ∈ u_ws RX6 TX6 16, w ∈ wsX6_keep := by decide +kernel
set_option maxRecDepth 100000 in
theorem k_X6_keep_f31 : Cond.fieldLink RX6 31 "RehearsalRoomModel" "isKept" "[Z" ∈ wsX6_keep := by decide +kernel
set_option maxRecDepth 100000 in
theorem k_X6_keep_f28 : Cond.fieldLink RX6 28 "RehearsalRoomModel" "kept" "[I" ∈ wsX6_keep := by decide +kernel
set_option maxRecDepth 100000 in
theorem k_X6_keep_f7 : Cond.fieldLink RX6 7 "RehearsalRoomModel" "now" "[I" ∈ wsX6_keep := by decide +kernel
set_option maxHeartbeats 8000000 in
set_option maxRecDepth 100000 in
theorem cn_X6_keep (l : Launch) (G : mG) (qy : Nat) (qyn : Nat) (qyt : Nat) (qyu : Nat) (qyf : Nat) (qyr : Nat) (qyb : Nat) (qyk : Nat) (qyi : Nat) (qyx : Nat) (yn : Nat → Int32) (yt : Nat → Int32) (yu : Nat → Int32) (yf : Nat → Int32) (yr : Nat → Int32) (yb : Nat → Int32) (yk : Nat → Int32) (yi : Nat → Int32) (yx : Nat → Int32) (za : Int32) (zs : Int32) (zl : Int32) (zt : Int32) (zg : Int32) (zr : Int32) (zm : Int32) (a1 : Int32) {Q : (Nat → Int32) → (Nat → Int32) → Int32 → Prop} (hw : wn_X6_keep yn yk yi za a1 Q) (sz : Nat) :
    Met l yX6_keep wsX6_keep ({ frames := 2, cells := 0, slots := 0, locals := 45 } : Room) (va_Pc [.ref qy, .int a1] (mPre G (w0_X6_keep G qy qyn qyt qyu qyf qyr qyb qyk qyi qyx yn yt yu yf yr yb yk yi yx za zs zl zt zg zr zm) sz)) (va_Qv (fun (u : (Nat → Int32) × (Nat → Int32) × Int32) => Q u.1 u.2.1 u.2.2) (mBk G (va_A (w0_X6_keep G qy qyn qyt qyu qyf qyr qyb qyk qyi qyx yn yt yu yf yr yb yk yi yx za zs zl zt zg zr zm) sz) (fun (u : (Nat → Int32) × (Nat → Int32) × Int32) => (w0_X6_keep G qy qyn qyt qyu qyf qyr qyb qyk qyi qyx yn yt yu yf yr yb u.1 u.2.1 yx u.2.2 zs zl zt zg zr zm))) (va_A (w0_X6_keep G qy qyn qyt qyu qyf qyr qyb qyk qyi qyx yn yt yu yf yr yb yk yi yx za zs zl zt zg zr zm) sz)) 0 0 (va_A (w0_X6_keep G qy qyn qyt qyu qyf qyr qyb qyk qyi qyx yn yt yu yf yr yb yk yi yx za zs zl zt zg zr zm) sz) := by
  refine ms_v (cc := cX6_keep) (maxL := 3) (ret := none) (post := (fun (u : (Nat → Int32) × (Nat → Int32) × Int32) => Q u.1 u.2.1 u.2.2)) (w1 := (fun (u : (Nat → Int32) × (Nat → Int32) × Int32) => (w0_X6_keep G qy qyn qyt qyu qyf qyr qyb qyk qyi qyx yn yt yu yf yr yb u.1 u.2.1 yx u.2.2 zs zl zt zg zr zm))) (by decide) rfl (Nat.le_of_ble_eq_true rfl) ?_ sz
  intro p e s m below meth c A ls H locs hx hb hr hml hown hts hlocks hK hG hP hD hS hA hl
  have hown : s.vm.findClass RX6 = some m.cls := hown
  have hl : lv_has ls 3 [(0, .ref qy), (1, .int a1)] := hl
  have J22 : ∀ (n : Nat) (yk : Nat → Int32) (yi : Nat → Int32) (za : Int32) (x1 : Int32) (x2 : Int32) (H : Heap) (locs : List Loc) (ls : Array Slot), va_P (gD G) vwCl (w0_X6_keep G qy qyn qyt qyu qyf qyr qyb qyk qyi qyx yn yt yu yf yr yb yk yi yx za zs zl zt zg zr zm) H → va_D A (w0_X6_keep G qy qyn qyt qyu qyf qyr qyb qyk qyi qyx yn yt yu yf yr yb yk yi yx za zs zl zt zg zr zm) → va_S A s.heap H locs → lv_has ls 3 [(0, .ref qy), (1, .int x1), (2, .int x2)] → wl_n_X6_keep_22 yn Q n yk yi za x1 x2 → W p l e ({ frames := 2, cells := 0, slots := 0, locals := 45 } : Room) s m ([.ref qy, .int a1] : List Value).toArray below meth c H locs 0 0 (MQ below (va_Qv (fun (u : (Nat → Int32) × (Nat → Int32) × Int32) => Q u.1 u.2.1 u.2.2) (mBk G A (fun (u : (Nat → Int32) × (Nat → Int32) × Int32) => (w0_X6_keep G qy qyn qyt qyu qyf qyr qyb qyk qyi qyx yn yt yu yf yr yb u.1 u.2.1 yx u.2.2 zs zl zt zg zr zm))) A) ([.ref qy, .int a1] : List Value).toArray s 0 0 A) (F0 m 22 ls []) := by
    intro n
    induction n with
    | zero => intro yk yi za x1 x2 H locs ls hP hD hS hl hw; exact False.elim hw
    | succ n ih =>
      intro yk yi za x1 x2 H locs ls hP hD hS hl hw
      rw [wl_n_X6_keep_22] at hw
      refine lv_iload_n hx hb dX6_keep_22 rfl (lv_at hl 2 rfl) ?_
      refine lv_bipush (v := 45) hx hb dX6_keep_23 (by decide) ?_
      refine lv_icmp_ge (tgt := 51) hx hb dX6_keep_25 (by decide) (fun cd6 => ?_) (fun cd6 => ?_)
      · have hw := hw.1 cd6
        refine lv_aload_n hx hb dX6_keep_51 rfl (lv_at hl 0 rfl) ?_
        refine va_get (D := gD G) (ci := 6) (v := .ref qyi) (C := RX6) (T := TX6) (N := 16) hx hb hts k_X6_keep_inX6 hown hK hP 0 rfl rfl 9 (by decide) (hts _ k_X6_keep_f31) (fun _ h9 => h9) rfl dX6_keep_52 ?_
        refine lv_iload_n hx hb dX6_keep_55 rfl (lv_at hl 1 rfl) ?_
        refine lv_iconst (v := 1) hx hb dX6_keep_56 (by decide) ?_
        obtain ⟨h7, hw⟩ := hw
        refine va_zast hx hb hK hP hD hS 8 1 rfl rfl h7 dX6_keep_57 (fun H locs hP hD hS => ?_)
        have hP : va_P (gD G) vwCl (w0_X6_keep G qy qyn qyt qyu qyf qyr qyb qyk qyi qyx yn yt yu yf yr yb yk (upd yi x1.toNatClampNeg (vp_nar .boolean (1 : Int32))) yx za zs zl zt zg zr zm) H := hP
        have hD : va_D A (w0_X6_keep G qy qyn qyt qyu qyf qyr qyb qyk qyi qyx yn yt yu yf yr yb yk (upd yi x1.toNatClampNeg (vp_nar .boolean (1 : Int32))) yx za zs zl zt zg zr zm) := hD
        exact fin_v (yk, (upd yi x1.toNatClampNeg (vp_nar .boolean (1 : Int32))), za) hx hb hr hlocks hK hS hP hD hw dX6_keep_58
      · have hw := hw.2 cd6
        refine lv_aload_n hx hb dX6_keep_28 rfl (lv_at hl 0 rfl) ?_
        refine va_get (D := gD G) (ci := 6) (v := .ref qyk) (C := RX6) (T := TX6) (N := 16) hx hb hts k_X6_keep_inX6 hown hK hP 0 rfl rfl 8 (by decide) (hts _ k_X6_keep_f28) (fun _ h9 => h9) rfl dX6_keep_29 ?_
        refine lv_bipush (v := 45) hx hb dX6_keep_32 (by decide) ?_
        refine lv_iload_n hx hb dX6_keep_34 rfl (lv_at hl 1 rfl) ?_
        refine lv_imul hx hb dX6_keep_35 ?_
        refine lv_iload_n hx hb dX6_keep_36 rfl (lv_at hl 2 rfl) ?_
        refine lv_iadd hx hb dX6_keep_37 ?_
        refine lv_aload_n hx hb dX6_keep_38 rfl (lv_at hl 0 rfl) ?_
        refine va_get (D := gD G) (ci := 6) (v := .ref qyn) (C := RX6) (T := TX6) (N := 16) hx hb hts k_X6_keep_inX6 hown hK hP 0 rfl rfl 1 (by decide) (hts _ k_X6_keep_f7) (fun _ h9 => h9) rfl dX6_keep_39 ?_
        refine lv_iload_n hx hb dX6_keep_42 rfl (lv_at hl 2 rfl) ?_
        obtain ⟨h8, hw⟩ := hw
        refine va_iald hx hb hK hP 1 0 rfl rfl h8 dX6_keep_43 ?_
        obtain ⟨h9, hw⟩ := hw
        refine va_iast hx hb hK hP hD hS 7 0 rfl rfl h9 dX6_keep_44 (fun H locs hP hD hS => ?_)
        have hP : va_P (gD G) vwCl (w0_X6_keep G qy qyn qyt qyu qyf qyr qyb qyk qyi qyx yn yt yu yf yr yb (upd yk (((45 : Int32) * x1) + x2).toNatClampNeg (yn x2.toNatClampNeg)) yi yx za zs zl zt zg zr zm) H := hP
        have hD : va_D A (w0_X6_keep G qy qyn qyt qyu qyf qyr qyb qyk qyi qyx yn yt yu yf yr yb (upd yk (((45 : Int32) * x1) + x2).toNatClampNeg (yn x2.toNatClampNeg)) yi yx za zs zl zt zg zr zm) := hD
        refine lv_iinc (v := (x2 + 1)) (lv' := [(2, .int (x2 + 1)), (0, .ref qy), (1, .int x1)]) hx hb dX6_keep_45 hl (k := 2) rfl rfl (by decide) rfl (fun ls hl => ?_)
        refine lv_goto (tgt := 22) hx hb dX6_keep_48 (by decide) ?_
        exact ih (upd yk (((45 : Int32) * x1) + x2).toNatClampNeg (yn x2.toNatClampNeg)) yi za x1 (x2 + 1) _ _ _ hP hD hS (lv_sub hl [1, 2, 0] rfl) hw
  have J13 : ∀ (yk : Nat → Int32) (yi : Nat → Int32) (za : Int32) (x1 : Int32) (y1 : Int32) (H : Heap) (locs : List Loc) (ls : Array Slot), (y1 = 0 ∨ y1 = 1) → va_P (gD G) vwCl (w0_X6_keep G qy qyn qyt qyu qyf qyr qyb qyk qyi qyx yn yt yu yf yr yb yk yi yx za zs zl zt zg zr zm) H → va_D A (w0_X6_keep G qy qyn qyt qyu qyf qyr qyb qyk qyi qyx yn yt yu yf yr yb yk yi yx za zs zl zt zg zr zm) → va_S A s.heap H locs → lv_has ls 3 [(0, .ref qy), (1, .int x1)] → wj_n_X6_keep_13 yn Q yk yi za x1 y1 → W p l e ({ frames := 2, cells := 0, slots := 0, locals := 45 } : Room) s m ([.ref qy, .int a1] : List Value).toArray below meth c H locs 0 0 (MQ below (va_Qv (fun (u : (Nat → Int32) × (Nat → Int32) × Int32) => Q u.1 u.2.1 u.2.2) (mBk G A (fun (u : (Nat → Int32) × (Nat → Int32) × Int32) => (w0_X6_keep G qy qyn qyt qyu qyf qyr qyb qyk qyi qyx yn yt yu yf yr yb u.1 u.2.1 yx u.2.2 zs zl zt zg zr zm))) A) ([.ref qy, .int a1] : List Value).toArray s 0 0 A) (F0 m 13 ls [.int y1, .ref qy]) := by
    intro yk yi za x1 y1 H locs ls hz_y1 hP hD hS hl hw
    unfold wj_n_X6_keep_13 at hw
    refine kc_i (kr_V [] ⟨hx, hb, hml, hown, hts⟩ (cn_X6_refused l G qy qyn qyt qyu qyf qyr qyb qyk qyi qyx yn yt yu yf yr yb yk yi yx za zs zl zt zg zr zm y1 hw H.size) (cwV 1 hts gX6_keep_X6_refused rfl rfl rfl (by decide +kernel) ⟨Nat.le_of_ble_eq_true rfl, Nat.le_of_ble_eq_true rfl⟩) hK hG hP hD hS hA [0, 1, 2, 3, 4, 5, 6, 7, 8, 9] rfl rfl 6 0 rfl rfl rfl hl.1 rfl (Nat.le_of_ble_eq_true rfl) dX6_keep_13 ⟨Nat.le_of_ble_eq_true rfl, Nat.le_of_ble_eq_true rfl⟩) hP hD hS hA [0, 1, 2, 3, 4, 5, 6, 7, 8, 9] [] rfl rfl rfl (by decide) (fun r3 u H locs hw hP hD hS => ?_)
    obtain ⟨za_4, rfl⟩ : ∃ z, z = u := ⟨_, rfl⟩
    try dsimp only at hw
    have hP := hP.sub (ws' := (w0_X6_keep G qy qyn qyt qyu qyf qyr qyb qyk qyi qyx yn yt yu yf yr yb yk yi yx za_4 zs zl zt zg zr zm)) [0, 1, 2, 3, 4, 5, 6, 7, 8, 9] rfl
    have hD := hD.sub (ws' := (w0_X6_keep G qy qyn qyt qyu qyf qyr qyb qyk qyi qyx yn yt yu yf yr yb yk yi yx za_4 zs zl zt zg zr zm)) [0, 1, 2, 3, 4, 5, 6, 7, 8, 9] rfl rfl
    obtain ⟨hz_r3, hw⟩ := hw
    refine lv_if_eq (tgt := 20) hx hb dX6_keep_16 (by decide) (fun cd5 => ?_) (fun cd5 => ?_)
    · have hw := hw.1 cd5
      refine lv_iconst (v := 0) hx hb dX6_keep_20 (by decide) ?_
      refine lv_istore_n (lv' := [(2, .int (0 : Int32)), (0, .ref qy), (1, .int x1)]) hx hb dX6_keep_21 rfl hl (by decide) rfl (fun ls hl => ?_)
      obtain ⟨n22, hw⟩ := hw
      exact J22 n22 yk yi za_4 x1 (0 : Int32) _ _ _ hP hD hS (lv_sub hl [1, 2, 0] rfl) hw
    · have hw := hw.2 cd5
      exact fin_v (yk, yi, za_4) hx hb hr hlocks hK hS hP hD hw dX6_keep_19
  unfold wn_X6_keep at hw
  refine lv_aload_n hx hb dX6_keep_0 rfl (lv_at hl 0 rfl) ?_
  refine lv_iload_n hx hb dX6_keep_1 rfl (lv_at hl 1 rfl) ?_
  refine kcR_i (kr_S [.ref qy] ⟨hx, hb, hml, hown, hts⟩ (cn_X6_isSlot l G a1 hw H.size) (va_cwS 1 hts gX6_keep_X6_isSlot rfl rfl rfl (by decide +kernel) ⟨Nat.le_of_ble_eq_true rfl, Nat.le_of_ble_eq_true rfl⟩) hK hG hP hD hS hA [] rfl rfl rfl hl.1 rfl (Nat.le_of_ble_eq_true rfl) dX6_keep_2 ⟨Nat.le_of_ble_eq_true rfl, Nat.le_of_ble_eq_true rfl⟩) hP hD hS hA [] rfl (fun r1 u H locs hw hP hS => ?_)
  try dsimp only at hw
  obtain ⟨hz_r1, hw⟩ := hw
  refine lv_if_eq (tgt := 12) hx hb dX6_keep_5 (by decide) (fun cd2 => ?_) (fun cd2 => ?_)
  · have hw := hw.1 cd2
    refine lv_iconst (v := 1) hx hb dX6_keep_12 (by decide) ?_
    exact J13 yk yi za a1 (1 : Int32) _ _ _ (Or.inr rfl) hP hD hS hl hw
  · have hw := hw.2 cd2
    refine lv_iconst (v := 0) hx hb dX6_keep_8 (by decide) ?_
    refine lv_goto (tgt := 13) hx hb dX6_keep_9 (by decide) ?_
    exact J13 yk yi za a1 (0 : Int32) _ _ _ (Or.inl rfl) hP hD hS hl hw

abbrev w0_X6_goBack (G : mG) (qy : Nat) (qyn : Nat) (qyt : Nat) (qyu : Nat) (qyf : Nat) (qyr : Nat) (qyb : Nat) (qyk : Nat) (qyi : Nat) (qyx : Nat) (yn : Nat → Int32) (yt : Nat → Int32) (yu : Nat → Int32) (yf : Nat → Int32) (yr : Nat → Int32) (yb : Nat → Int32) (yk : Nat → Int32) (yi : Nat → Int32) (yx : Nat → Int32) (za : Int32) (zs : Int32) (zl : Int32) (zt : Int32) (zg : Int32) (zr : Int32) (zm : Int32) : va_W := [(qy, .inr (6, [.int za, .ref qyn, .ref qyt, .ref qyu, .ref qyf, .ref qyr, .ref qyb, .int zs, .ref qyk, .ref qyi, .ref qyx, .int zl, .int zt, .int zg, .int zr, .int zm])), (qyn, .inl (gI G, (45, .inl yn))), (qyt, .inl (gI G, (45, .inl yt))), (qyu, .inl (gI G, (16384, .inl yu))), (qyf, .inl (gI G, (14, .inl yf))), (qyr, .inl (gI G, (14, .inl yr))), (qyb, .inl (gI G, (270, .inl yb))), (qyk, .inl (gI G, (90, .inl yk))), (qyi, .inl (gZ G, (2, .inl yi))), (qyx, .inl (gI G, (60, .inl yx)))]
set_option maxRecDepth 100000 in
theorem k_X6_goBack_inX6 : ∀ w ∈ u_ws RX6 TX6 16, w ∈ wsX6_goBack := by decide +kernel
set_option maxRecDepth 100000 in
theorem k_X6_goBack_f31 : Cond.fieldLink RX6 31 "RehearsalRoomModel" "isKept" "[Z" ∈ wsX6_goBack := by decide +kernel
set_option maxRecDepth 100000 in
theorem k_X6_goBack_f7 : Cond.fieldLink RX6 7 "RehearsalRoomModel" "now" "[I" ∈ wsX6_goBack := by decide +kernel
set_option maxRecDepth 100000 in
theorem k_X6_goBack_f28 : Cond.fieldLink RX6 28 "RehearsalRoomModel" "kept" "[I" ∈ wsX6_goBack := by decide +kernel
set_option maxHeartbeats 8000000 in
set_option maxRecDepth 100000 in
theorem cn_X6_goBack (l : Launch) (G : mG) (qy : Nat) (qyn : Nat) (qyt : Nat) (qyu : Nat) (qyf : Nat) (qyr : Nat) (qyb : Nat) (qyk : Nat) (qyi : Nat) (qyx : Nat) (yn : Nat → Int32) (yt : Nat → Int32) (yu : Nat → Int32) (yf : Nat → Int32) (yr : Nat → Int32) (yb : Nat → Int32) (yk : Nat → Int32) (yi : Nat → Int32) (yx : Nat → Int32) (za : Int32) (zs : Int32) (zl : Int32) (zt : Int32) (zg : Int32) (zr : Int32) (zm : Int32) (a1 : Int32) {Q : (Nat → Int32) → (Nat → Int32) → Int32 → Int32 → Prop} (hw : wn_X6_goBack yn yb yk yi za zs a1 Q) (sz : Nat) :
    Met l yX6_goBack wsX6_goBack ({ frames := 2, cells := 0, slots := 0, locals := 45 } : Room) (va_Pc [.ref qy, .int a1] (mPre G (w0_X6_goBack G qy qyn qyt qyu qyf qyr qyb qyk qyi qyx yn yt yu yf yr yb yk yi yx za zs zl zt zg zr zm) sz)) (va_Qv (fun (u : (Nat → Int32) × (Nat → Int32) × Int32 × Int32) => Q u.1 u.2.1 u.2.2.1 u.2.2.2) (mBk G (va_A (w0_X6_goBack G qy qyn qyt qyu qyf qyr qyb qyk qyi qyx yn yt yu yf yr yb yk yi yx za zs zl zt zg zr zm) sz) (fun (u : (Nat → Int32) × (Nat → Int32) × Int32 × Int32) => (w0_X6_goBack G qy qyn qyt qyu qyf qyr qyb qyk qyi qyx u.1 yt yu yf yr u.2.1 yk yi yx u.2.2.1 u.2.2.2 zl zt zg zr zm))) (va_A (w0_X6_goBack G qy qyn qyt qyu qyf qyr qyb qyk qyi qyx yn yt yu yf yr yb yk yi yx za zs zl zt zg zr zm) sz)) 0 0 (va_A (w0_X6_goBack G qy qyn qyt qyu qyf qyr qyb qyk qyi qyx yn yt yu yf yr yb yk yi yx za zs zl zt zg zr zm) sz) := by
  refine ms_v (cc := cX6_goBack) (maxL := 3) (ret := none) (post := (fun (u : (Nat → Int32) × (Nat → Int32) × Int32 × Int32) => Q u.1 u.2.1 u.2.2.1 u.2.2.2)) (w1 := (fun (u : (Nat → Int32) × (Nat → Int32) × Int32 × Int32) => (w0_X6_goBack G qy qyn qyt qyu qyf qyr qyb qyk qyi qyx u.1 yt yu yf yr u.2.1 yk yi yx u.2.2.1 u.2.2.2 zl zt zg zr zm))) (by decide) rfl (Nat.le_of_ble_eq_true rfl) ?_ sz
  intro p e s m below meth c A ls H locs hx hb hr hml hown hts hlocks hK hG hP hD hS hA hl
  have hown : s.vm.findClass RX6 = some m.cls := hown
  have hl : lv_has ls 3 [(0, .ref qy), (1, .int a1)] := hl
  have J39 : ∀ (n : Nat) (yn : Nat → Int32) (yb : Nat → Int32) (za : Int32) (zs : Int32) (x1 : Int32) (x2 : Int32) (H : Heap) (locs : List Loc) (ls : Array Slot), va_P (gD G) vwCl (w0_X6_goBack G qy qyn qyt qyu qyf qyr qyb qyk qyi qyx yn yt yu yf yr yb yk yi yx za zs zl zt zg zr zm) H → va_D A (w0_X6_goBack G qy qyn qyt qyu qyf qyr qyb qyk qyi qyx yn yt yu yf yr yb yk yi yx za zs zl zt zg zr zm) → va_S A s.heap H locs → lv_has ls 3 [(0, .ref qy), (1, .int x1), (2, .int x2)] → wl_n_X6_goBack_39 yk yi Q n yn yb za zs x1 x2 → W p l e ({ frames := 2, cells := 0, slots := 0, locals := 45 } : Room) s m ([.ref qy, .int a1] : List Value).toArray below meth c H locs 0 0 (MQ below (va_Qv (fun (u : (Nat → Int32) × (Nat → Int32) × Int32 × Int32) => Q u.1 u.2.1 u.2.2.1 u.2.2.2) (mBk G A (fun (u : (Nat → Int32) × (Nat → Int32) × Int32 × Int32) => (w0_X6_goBack G qy qyn qyt qyu qyf qyr qyb qyk qyi qyx u.1 yt yu yf yr u.2.1 yk yi yx u.2.2.1 u.2.2.2 zl zt zg zr zm))) A) ([.ref qy, .int a1] : List Value).toArray s 0 0 A) (F0 m 39 ls []) := by
    intro n
    induction n with
    | zero => intro yn yb za zs x1 x2 H locs ls hP hD hS hl hw; exact False.elim hw
    | succ n ih =>
      intro yn yb za zs x1 x2 H locs ls hP hD hS hl hw
      rw [wl_n_X6_goBack_39] at hw
      refine lv_iload_n hx hb dX6_goBack_39 rfl (lv_at hl 2 rfl) ?_
      refine lv_bipush (v := 45) hx hb dX6_goBack_40 (by decide) ?_
      refine lv_icmp_ge (tgt := 68) hx hb dX6_goBack_42 (by decide) (fun cd10 => ?_) (fun cd10 => ?_)
      · have hw := hw.1 cd10
        exact fin_v (yn, yb, za, zs) hx hb hr hlocks hK hS hP hD hw dX6_goBack_68
      · have hw := hw.2 cd10
        refine lv_aload_n hx hb dX6_goBack_45 rfl (lv_at hl 0 rfl) ?_
        refine va_get (D := gD G) (ci := 6) (v := .ref qyn) (C := RX6) (T := TX6) (N := 16) hx hb hts k_X6_goBack_inX6 hown hK hP 0 rfl rfl 1 (by decide) (hts _ k_X6_goBack_f7) (fun _ h9 => h9) rfl dX6_goBack_46 ?_
        refine lv_iload_n hx hb dX6_goBack_49 rfl (lv_at hl 2 rfl) ?_
        refine lv_aload_n hx hb dX6_goBack_50 rfl (lv_at hl 0 rfl) ?_
        refine va_get (D := gD G) (ci := 6) (v := .ref qyk) (C := RX6) (T := TX6) (N := 16) hx hb hts k_X6_goBack_inX6 hown hK hP 0 rfl rfl 8 (by decide) (hts _ k_X6_goBack_f28) (fun _ h9 => h9) rfl dX6_goBack_51 ?_
        refine lv_bipush (v := 45) hx hb dX6_goBack_54 (by decide) ?_
        refine lv_iload_n hx hb dX6_goBack_56 rfl (lv_at hl 1 rfl) ?_
        refine lv_imul hx hb dX6_goBack_57 ?_
        refine lv_iload_n hx hb dX6_goBack_58 rfl (lv_at hl 2 rfl) ?_
        refine lv_iadd hx hb dX6_goBack_59 ?_
        obtain ⟨h11, hw⟩ := hw
        refine va_iald hx hb hK hP 7 0 rfl rfl h11 dX6_goBack_60 ?_
        obtain ⟨h12, hw⟩ := hw
        refine va_iast hx hb hK hP hD hS 1 0 rfl rfl h12 dX6_goBack_61 (fun H locs hP hD hS => ?_)
        have hP : va_P (gD G) vwCl (w0_X6_goBack G qy qyn qyt qyu qyf qyr qyb qyk qyi qyx (upd yn x2.toNatClampNeg (yk (((45 : Int32) * x1) + x2).toNatClampNeg)) yt yu yf yr yb yk yi yx za zs zl zt zg zr zm) H := hP
        have hD : va_D A (w0_X6_goBack G qy qyn qyt qyu qyf qyr qyb qyk qyi qyx (upd yn x2.toNatClampNeg (yk (((45 : Int32) * x1) + x2).toNatClampNeg)) yt yu yf yr yb yk yi yx za zs zl zt zg zr zm) := hD
        refine lv_iinc (v := (x2 + 1)) (lv' := [(2, .int (x2 + 1)), (0, .ref qy), (1, .int x1)]) hx hb dX6_goBack_62 hl (k := 2) rfl rfl (by decide) rfl (fun ls hl => ?_)
        refine lv_goto (tgt := 39) hx hb dX6_goBack_65 (by decide) ?_
        exact ih (upd yn x2.toNatClampNeg (yk (((45 : Int32) * x1) + x2).toNatClampNeg)) yb za zs x1 (x2 + 1) _ _ _ hP hD hS (lv_sub hl [1, 2, 0] rfl) hw
  have J26 : ∀ (yn : Nat → Int32) (yb : Nat → Int32) (za : Int32) (zs : Int32) (x1 : Int32) (y1 : Int32) (H : Heap) (locs : List Loc) (ls : Array Slot), va_P (gD G) vwCl (w0_X6_goBack G qy qyn qyt qyu qyf qyr qyb qyk qyi qyx yn yt yu yf yr yb yk yi yx za zs zl zt zg zr zm) H → va_D A (w0_X6_goBack G qy qyn qyt qyu qyf qyr qyb qyk qyi qyx yn yt yu yf yr yb yk yi yx za zs zl zt zg zr zm) → va_S A s.heap H locs → lv_has ls 3 [(0, .ref qy), (1, .int x1)] → wj_n_X6_goBack_26 yk yi Q yn yb za zs x1 y1 → W p l e ({ frames := 2, cells := 0, slots := 0, locals := 45 } : Room) s m ([.ref qy, .int a1] : List Value).toArray below meth c H locs 0 0 (MQ below (va_Qv (fun (u : (Nat → Int32) × (Nat → Int32) × Int32 × Int32) => Q u.1 u.2.1 u.2.2.1 u.2.2.2) (mBk G A (fun (u : (Nat → Int32) × (Nat → Int32) × Int32 × Int32) => (w0_X6_goBack G qy qyn qyt qyu qyf qyr qyb qyk qyi qyx u.1 yt yu yf yr u.2.1 yk yi yx u.2.2.1 u.2.2.2 zl zt zg zr zm))) A) ([.ref qy, .int a1] : List Value).toArray s 0 0 A) (F0 m 26 ls [.int y1, .ref qy]) := by
    intro yn yb za zs x1 y1 H locs ls hP hD hS hl hw
    unfold wj_n_X6_goBack_26 at hw
    refine kc_i (kr_V [] ⟨hx, hb, hml, hown, hts⟩ (cn_X6_refused l G qy qyn qyt qyu qyf qyr qyb qyk qyi qyx yn yt yu yf yr yb yk yi yx za zs zl zt zg zr zm y1 hw H.size) (cwV 1 hts gX6_goBack_X6_refused rfl rfl rfl (by decide +kernel) ⟨Nat.le_of_ble_eq_true rfl, Nat.le_of_ble_eq_true rfl⟩) hK hG hP hD hS hA [0, 1, 2, 3, 4, 5, 6, 7, 8, 9] rfl rfl 6 0 rfl rfl rfl hl.1 rfl (Nat.le_of_ble_eq_true rfl) dX6_goBack_26 ⟨Nat.le_of_ble_eq_true rfl, Nat.le_of_ble_eq_true rfl⟩) hP hD hS hA [0, 1, 2, 3, 4, 5, 6, 7, 8, 9] [] rfl rfl rfl (by decide) (fun r5 u H locs hw hP hD hS => ?_)
    obtain ⟨za_6, rfl⟩ : ∃ z, z = u := ⟨_, rfl⟩
    try dsimp only at hw
    have hP := hP.sub (ws' := (w0_X6_goBack G qy qyn qyt qyu qyf qyr qyb qyk qyi qyx yn yt yu yf yr yb yk yi yx za_6 zs zl zt zg zr zm)) [0, 1, 2, 3, 4, 5, 6, 7, 8, 9] rfl
    have hD := hD.sub (ws' := (w0_X6_goBack G qy qyn qyt qyu qyf qyr qyb qyk qyi qyx yn yt yu yf yr yb yk yi yx za_6 zs zl zt zg zr zm)) [0, 1, 2, 3, 4, 5, 6, 7, 8, 9] rfl rfl
    obtain ⟨hz_r5, hw⟩ := hw
    refine lv_if_eq (tgt := 33) hx hb dX6_goBack_29 (by decide) (fun cd7 => ?_) (fun cd7 => ?_)
    · have hw := hw.1 cd7
      refine lv_aload_n hx hb dX6_goBack_33 rfl (lv_at hl 0 rfl) ?_
      refine kc_v (kr_V [] ⟨hx, hb, hml, hown, hts⟩ (cn_X6_save l G qy qyn qyt qyu qyf qyr qyb qyk qyi qyx yn yt yu yf yr yb yk yi yx za_6 zs zl zt zg zr zm hw H.size) (cwV 0 hts gX6_goBack_X6_save rfl rfl rfl (by decide +kernel) ⟨Nat.le_of_ble_eq_true rfl, Nat.le_of_ble_eq_true rfl⟩) hK hG hP hD hS hA [0, 1, 2, 3, 4, 5, 6, 7, 8, 9] rfl rfl 6 0 rfl rfl rfl hl.1 rfl (Nat.le_of_ble_eq_true rfl) dX6_goBack_34 ⟨Nat.le_of_ble_eq_true rfl, Nat.le_of_ble_eq_true rfl⟩) hP hD hS hA [0, 1, 2, 3, 4, 5, 6, 7, 8, 9] [] rfl rfl rfl (by decide) (fun u H locs hw hP hD hS => ?_)
      obtain ⟨yb_8, zs_9⟩ := u
      try dsimp only at hw
      have hP := hP.sub (ws' := (w0_X6_goBack G qy qyn qyt qyu qyf qyr qyb qyk qyi qyx yn yt yu yf yr yb_8 yk yi yx za_6 zs_9 zl zt zg zr zm)) [0, 1, 2, 3, 4, 5, 6, 7, 8, 9] rfl
      have hD := hD.sub (ws' := (w0_X6_goBack G qy qyn qyt qyu qyf qyr qyb qyk qyi qyx yn yt yu yf yr yb_8 yk yi yx za_6 zs_9 zl zt zg zr zm)) [0, 1, 2, 3, 4, 5, 6, 7, 8, 9] rfl rfl
      refine lv_iconst (v := 0) hx hb dX6_goBack_37 (by decide) ?_
      refine lv_istore_n (lv' := [(2, .int (0 : Int32)), (0, .ref qy), (1, .int x1)]) hx hb dX6_goBack_38 rfl hl (by decide) rfl (fun ls hl => ?_)
      obtain ⟨n39, hw⟩ := hw
      exact J39 n39 yn yb_8 za_6 zs_9 x1 (0 : Int32) _ _ _ hP hD hS (lv_sub hl [1, 2, 0] rfl) hw
    · have hw := hw.2 cd7
      exact fin_v (yn, yb, za_6, zs) hx hb hr hlocks hK hS hP hD hw dX6_goBack_32
  unfold wn_X6_goBack at hw
  refine lv_aload_n hx hb dX6_goBack_0 rfl (lv_at hl 0 rfl) ?_
  refine lv_iload_n hx hb dX6_goBack_1 rfl (lv_at hl 1 rfl) ?_
  refine kcR_i (kr_S [.ref qy] ⟨hx, hb, hml, hown, hts⟩ (cn_X6_isSlot l G a1 hw H.size) (va_cwS 1 hts gX6_goBack_X6_isSlot rfl rfl rfl (by decide +kernel) ⟨Nat.le_of_ble_eq_true rfl, Nat.le_of_ble_eq_true rfl⟩) hK hG hP hD hS hA [] rfl rfl rfl hl.1 rfl (Nat.le_of_ble_eq_true rfl) dX6_goBack_2 ⟨Nat.le_of_ble_eq_true rfl, Nat.le_of_ble_eq_true rfl⟩) hP hD hS hA [] rfl (fun r1 u H locs hw hP hS => ?_)
  try dsimp only at hw
  obtain ⟨hz_r1, hw⟩ := hw
  refine lv_if_ne (tgt := 12) hx hb dX6_goBack_5 (by decide) (fun cd2 => ?_) (fun cd2 => ?_)
  · have hw := hw.1 cd2
    refine lv_aload_n hx hb dX6_goBack_12 rfl (lv_at hl 0 rfl) ?_
    refine va_get (D := gD G) (ci := 6) (v := .ref qyi) (C := RX6) (T := TX6) (N := 16) hx hb hts k_X6_goBack_inX6 hown hK hP 0 rfl rfl 9 (by decide) (hts _ k_X6_goBack_f31) (fun _ h9 => h9) rfl dX6_goBack_13 ?_
    refine lv_iload_n hx hb dX6_goBack_16 rfl (lv_at hl 1 rfl) ?_
    obtain ⟨h3, hw⟩ := hw
    refine va_zald hx hb hK hP 8 1 rfl rfl h3 dX6_goBack_17 ?_
    refine lv_if_ne (tgt := 25) hx hb dX6_goBack_18 (by decide) (fun cd4 => ?_) (fun cd4 => ?_)
    · have hw := hw.1 cd4
      refine lv_iconst (v := 0) hx hb dX6_goBack_25 (by decide) ?_
      exact J26 yn yb za zs a1 (0 : Int32) _ _ _ hP hD hS hl hw
    · have hw := hw.2 cd4
      refine lv_iconst (v := 2) hx hb dX6_goBack_21 (by decide) ?_
      refine lv_goto (tgt := 26) hx hb dX6_goBack_22 (by decide) ?_
      exact J26 yn yb za zs a1 (2 : Int32) _ _ _ hP hD hS hl hw
  · have hw := hw.2 cd2
    refine lv_iconst (v := 1) hx hb dX6_goBack_8 (by decide) ?_
    refine lv_goto (tgt := 26) hx hb dX6_goBack_9 (by decide) ?_
    exact J26 yn yb za zs a1 (1 : Int32) _ _ _ hP hD hS hl hw

abbrev w0_X6_undo (G : mG) (qy : Nat) (qyn : Nat) (qyt : Nat) (qyu : Nat) (qyf : Nat) (qyr : Nat) (qyb : Nat) (qyk : Nat) (qyi : Nat) (qyx : Nat) (yn : Nat → Int32) (yt : Nat → Int32) (yu : Nat → Int32) (yf : Nat → Int32) (yr : Nat → Int32) (yb : Nat → Int32) (yk : Nat → Int32) (yi : Nat → Int32) (yx : Nat → Int32) (za : Int32) (zs : Int32) (zl : Int32) (zt : Int32) (zg : Int32) (zr : Int32) (zm : Int32) : va_W := [(qy, .inr (6, [.int za, .ref qyn, .ref qyt, .ref qyu, .ref qyf, .ref qyr, .ref qyb, .int zs, .ref qyk, .ref qyi, .ref qyx, .int zl, .int zt, .int zg, .int zr, .int zm])), (qyn, .inl (gI G, (45, .inl yn))), (qyt, .inl (gI G, (45, .inl yt))), (qyu, .inl (gI G, (16384, .inl yu))), (qyf, .inl (gI G, (14, .inl yf))), (qyr, .inl (gI G, (14, .inl yr))), (qyb, .inl (gI G, (270, .inl yb))), (qyk, .inl (gI G, (90, .inl yk))), (qyi, .inl (gZ G, (2, .inl yi))), (qyx, .inl (gI G, (60, .inl yx)))]
set_option maxRecDepth 100000 in
theorem k_X6_undo_inX6 : ∀ w ∈ u_ws RX6 TX6 16, w ∈ wsX6_undo := by decide +kernel
set_option maxRecDepth 100000 in
theorem k_X6_undo_f70 : Cond.fieldLink RX6 70 "RehearsalRoomModel" "states" "I" ∈ wsX6_undo := by decide +kernel
set_option maxRecDepth 100000 in
theorem k_X6_undo_f7 : Cond.fieldLink RX6 7 "RehearsalRoomModel" "now" "[I" ∈ wsX6_undo := by decide +kernel
set_option maxRecDepth 100000 in
theorem k_X6_undo_f25 : Cond.fieldLink RX6 25 "RehearsalRoomModel" "book" "[I" ∈ wsX6_undo := by decide +kernel
set_option maxHeartbeats 8000000 in
set_option maxRecDepth 100000 in
theorem cn_X6_undo (l : Launch) (G : mG) (qy : Nat) (qyn : Nat) (qyt : Nat) (qyu : Nat) (qyf : Nat) (qyr : Nat) (qyb : Nat) (qyk : Nat) (qyi : Nat) (qyx : Nat) (yn : Nat → Int32) (yt : Nat → Int32) (yu : Nat → Int32) (yf : Nat → Int32) (yr : Nat → Int32) (yb : Nat → Int32) (yk : Nat → Int32) (yi : Nat → Int32) (yx : Nat → Int32) (za : Int32) (zs : Int32) (zl : Int32) (zt : Int32) (zg : Int32) (zr : Int32) (zm : Int32) {Q : (Nat → Int32) → Int32 → Int32 → Prop} (hw : wn_X6_undo yn yb za zs Q) (sz : Nat) :
    Met l yX6_undo wsX6_undo ({ frames := 1, cells := 0, slots := 0, locals := 21 } : Room) (va_Pc [.ref qy] (mPre G (w0_X6_undo G qy qyn qyt qyu qyf qyr qyb qyk qyi qyx yn yt yu yf yr yb yk yi yx za zs zl zt zg zr zm) sz)) (va_Qv (fun (u : (Nat → Int32) × Int32 × Int32) => Q u.1 u.2.1 u.2.2) (mBk G (va_A (w0_X6_undo G qy qyn qyt qyu qyf qyr qyb qyk qyi qyx yn yt yu yf yr yb yk yi yx za zs zl zt zg zr zm) sz) (fun (u : (Nat → Int32) × Int32 × Int32) => (w0_X6_undo G qy qyn qyt qyu qyf qyr qyb qyk qyi qyx u.1 yt yu yf yr yb yk yi yx u.2.1 u.2.2 zl zt zg zr zm))) (va_A (w0_X6_undo G qy qyn qyt qyu qyf qyr qyb qyk qyi qyx yn yt yu yf yr yb yk yi yx za zs zl zt zg zr zm) sz)) 0 0 (va_A (w0_X6_undo G qy qyn qyt qyu qyf qyr qyb qyk qyi qyx yn yt yu yf yr yb yk yi yx za zs zl zt zg zr zm) sz) := by
  refine ms_v (cc := cX6_undo) (maxL := 2) (ret := none) (post := (fun (u : (Nat → Int32) × Int32 × Int32) => Q u.1 u.2.1 u.2.2)) (w1 := (fun (u : (Nat → Int32) × Int32 × Int32) => (w0_X6_undo G qy qyn qyt qyu qyf qyr qyb qyk qyi qyx u.1 yt yu yf yr yb yk yi yx u.2.1 u.2.2 zl zt zg zr zm))) (by decide) rfl (Nat.le_of_ble_eq_true rfl) ?_ sz
  intro p e s m below meth c A ls H locs hx hb hr hml hown hts hlocks hK hG hP hD hS hA hl
  have hown : s.vm.findClass RX6 = some m.cls := hown
  have hl : lv_has ls 2 [(0, .ref qy)] := hl
  have J32 : ∀ (n : Nat) (yn : Nat → Int32) (za : Int32) (zs : Int32) (x1 : Int32) (H : Heap) (locs : List Loc) (ls : Array Slot), va_P (gD G) vwCl (w0_X6_undo G qy qyn qyt qyu qyf qyr qyb qyk qyi qyx yn yt yu yf yr yb yk yi yx za zs zl zt zg zr zm) H → va_D A (w0_X6_undo G qy qyn qyt qyu qyf qyr qyb qyk qyi qyx yn yt yu yf yr yb yk yi yx za zs zl zt zg zr zm) → va_S A s.heap H locs → lv_has ls 2 [(0, .ref qy), (1, .int x1)] → wl_n_X6_undo_32 yb Q n yn za zs x1 → W p l e ({ frames := 1, cells := 0, slots := 0, locals := 21 } : Room) s m ([.ref qy] : List Value).toArray below meth c H locs 0 0 (MQ below (va_Qv (fun (u : (Nat → Int32) × Int32 × Int32) => Q u.1 u.2.1 u.2.2) (mBk G A (fun (u : (Nat → Int32) × Int32 × Int32) => (w0_X6_undo G qy qyn qyt qyu qyf qyr qyb qyk qyi qyx u.1 yt yu yf yr yb yk yi yx u.2.1 u.2.2 zl zt zg zr zm))) A) ([.ref qy] : List Value).toArray s 0 0 A) (F0 m 32 ls []) := by
    intro n
    induction n with
    | zero => intro yn za zs x1 H locs ls hP hD hS hl hw; exact False.elim hw
    | succ n ih =>
      intro yn za zs x1 H locs ls hP hD hS hl hw
      rw [wl_n_X6_undo_32] at hw
      refine lv_iload_n hx hb dX6_undo_32 rfl (lv_at hl 1 rfl) ?_
      refine lv_bipush (v := 45) hx hb dX6_undo_33 (by decide) ?_
      refine lv_icmp_ge (tgt := 64) hx hb dX6_undo_35 (by decide) (fun cd5 => ?_) (fun cd5 => ?_)
      · have hw := hw.1 cd5
        exact fin_v (yn, za, zs) hx hb hr hlocks hK hS hP hD hw dX6_undo_64
      · have hw := hw.2 cd5
        refine lv_aload_n hx hb dX6_undo_38 rfl (lv_at hl 0 rfl) ?_
        refine va_get (D := gD G) (ci := 6) (v := .ref qyn) (C := RX6) (T := TX6) (N := 16) hx hb hts k_X6_undo_inX6 hown hK hP 0 rfl rfl 1 (by decide) (hts _ k_X6_undo_f7) (fun _ h9 => h9) rfl dX6_undo_39 ?_
        refine lv_iload_n hx hb dX6_undo_42 rfl (lv_at hl 1 rfl) ?_
        refine lv_aload_n hx hb dX6_undo_43 rfl (lv_at hl 0 rfl) ?_
        refine va_get (D := gD G) (ci := 6) (v := .ref qyb) (C := RX6) (T := TX6) (N := 16) hx hb hts k_X6_undo_inX6 hown hK hP 0 rfl rfl 6 (by decide) (hts _ k_X6_undo_f25) (fun _ h9 => h9) rfl dX6_undo_44 ?_
        refine lv_bipush (v := 45) hx hb dX6_undo_47 (by decide) ?_
        refine lv_aload_n hx hb dX6_undo_49 rfl (lv_at hl 0 rfl) ?_
        refine va_get (D := gD G) (ci := 6) (v := .int zs) (C := RX6) (T := TX6) (N := 16) hx hb hts k_X6_undo_inX6 hown hK hP 0 rfl rfl 7 (by decide) (hts _ k_X6_undo_f70) (fun _ h9 => h9) rfl dX6_undo_50 ?_
        refine lv_imul hx hb dX6_undo_53 ?_
        refine lv_iload_n hx hb dX6_undo_54 rfl (lv_at hl 1 rfl) ?_
        refine lv_iadd hx hb dX6_undo_55 ?_
        obtain ⟨h6, hw⟩ := hw
        refine va_iald hx hb hK hP 6 0 rfl rfl h6 dX6_undo_56 ?_
        obtain ⟨h7, hw⟩ := hw
        refine va_iast hx hb hK hP hD hS 1 0 rfl rfl h7 dX6_undo_57 (fun H locs hP hD hS => ?_)
        have hP : va_P (gD G) vwCl (w0_X6_undo G qy qyn qyt qyu qyf qyr qyb qyk qyi qyx (upd yn x1.toNatClampNeg (yb (((45 : Int32) * zs) + x1).toNatClampNeg)) yt yu yf yr yb yk yi yx za zs zl zt zg zr zm) H := hP
        have hD : va_D A (w0_X6_undo G qy qyn qyt qyu qyf qyr qyb qyk qyi qyx (upd yn x1.toNatClampNeg (yb (((45 : Int32) * zs) + x1).toNatClampNeg)) yt yu yf yr yb yk yi yx za zs zl zt zg zr zm) := hD
        refine lv_iinc (v := (x1 + 1)) (lv' := [(1, .int (x1 + 1)), (0, .ref qy)]) hx hb dX6_undo_58 hl (k := 1) rfl rfl (by decide) rfl (fun ls hl => ?_)
        refine lv_goto (tgt := 32) hx hb dX6_undo_61 (by decide) ?_
        exact ih (upd yn x1.toNatClampNeg (yb (((45 : Int32) * zs) + x1).toNatClampNeg)) za zs (x1 + 1) _ _ _ hP hD hS (lv_sub hl [1, 0] rfl) hw
  have J13 : ∀ (yn : Nat → Int32) (za : Int32) (zs : Int32) (y1 : Int32) (H : Heap) (locs : List Loc) (ls : Array Slot), (y1 = 0 ∨ y1 = 1) → va_P (gD G) vwCl (w0_X6_undo G qy qyn qyt qyu qyf qyr qyb qyk qyi qyx yn yt yu yf yr yb yk yi yx za zs zl zt zg zr zm) H → va_D A (w0_X6_undo G qy qyn qyt qyu qyf qyr qyb qyk qyi qyx yn yt yu yf yr yb yk yi yx za zs zl zt zg zr zm) → va_S A s.heap H locs → lv_has ls 2 [(0, .ref qy)] → wj_n_X6_undo_13 yb Q yn za zs y1 → W p l e ({ frames := 1, cells := 0, slots := 0, locals := 21 } : Room) s m ([.ref qy] : List Value).toArray below meth c H locs 0 0 (MQ below (va_Qv (fun (u : (Nat → Int32) × Int32 × Int32) => Q u.1 u.2.1 u.2.2) (mBk G A (fun (u : (Nat → Int32) × Int32 × Int32) => (w0_X6_undo G qy qyn qyt qyu qyf qyr qyb qyk qyi qyx u.1 yt yu yf yr yb yk yi yx u.2.1 u.2.2 zl zt zg zr zm))) A) ([.ref qy] : List Value).toArray s 0 0 A) (F0 m 13 ls [.int y1, .ref qy]) := by
    intro yn za zs y1 H locs ls hz_y1 hP hD hS hl hw
    unfold wj_n_X6_undo_13 at hw
    refine kc_i (kr_V [] ⟨hx, hb, hml, hown, hts⟩ (cn_X6_refused l G qy qyn qyt qyu qyf qyr qyb qyk qyi qyx yn yt yu yf yr yb yk yi yx za zs zl zt zg zr zm y1 hw H.size) (cwV 1 hts gX6_undo_X6_refused rfl rfl rfl (by decide +kernel) ⟨Nat.le_of_ble_eq_true rfl, Nat.le_of_ble_eq_true rfl⟩) hK hG hP hD hS hA [0, 1, 2, 3, 4, 5, 6, 7, 8, 9] rfl rfl 6 0 rfl rfl rfl hl.1 rfl (Nat.le_of_ble_eq_true rfl) dX6_undo_13 ⟨Nat.le_of_ble_eq_true rfl, Nat.le_of_ble_eq_true rfl⟩) hP hD hS hA [0, 1, 2, 3, 4, 5, 6, 7, 8, 9] [] rfl rfl rfl (by decide) (fun r2 u H locs hw hP hD hS => ?_)
    obtain ⟨za_3, rfl⟩ : ∃ z, z = u := ⟨_, rfl⟩
    try dsimp only at hw
    have hP := hP.sub (ws' := (w0_X6_undo G qy qyn qyt qyu qyf qyr qyb qyk qyi qyx yn yt yu yf yr yb yk yi yx za_3 zs zl zt zg zr zm)) [0, 1, 2, 3, 4, 5, 6, 7, 8, 9] rfl
    have hD := hD.sub (ws' := (w0_X6_undo G qy qyn qyt qyu qyf qyr qyb qyk qyi qyx yn yt yu yf yr yb yk yi yx za_3 zs zl zt zg zr zm)) [0, 1, 2, 3, 4, 5, 6, 7, 8, 9] rfl rfl
    obtain ⟨hz_r2, hw⟩ := hw
    refine lv_if_eq (tgt := 20) hx hb dX6_undo_16 (by decide) (fun cd4 => ?_) (fun cd4 => ?_)
    · have hw := hw.1 cd4
      refine lv_aload_n hx hb dX6_undo_20 rfl (lv_at hl 0 rfl) ?_
      refine lv_dup hx hb dX6_undo_21 rfl ?_
      refine va_get (D := gD G) (ci := 6) (v := .int zs) (C := RX6) (T := TX6) (N := 16) hx hb hts k_X6_undo_inX6 hown hK hP 0 rfl rfl 7 (by decide) (hts _ k_X6_undo_f70) (fun _ h9 => h9) rfl dX6_undo_22 ?_
      refine lv_iconst (v := 1) hx hb dX6_undo_25 (by decide) ?_
      refine lv_isub hx hb dX6_undo_26 ?_
      refine va_put (D := gD G) (ci := 6) (v := .int (zs - (1 : Int32))) (ty := .int) (C := RX6) (T := TX6) (N := 16) hx hb hts k_X6_undo_inX6 tyX6 tyX6_ok nmX6 hown hK hP hD hS 0 rfl rfl 7 (by decide) (hts _ k_X6_undo_f70) (fun _ h9 => h9) rfl (by decide +kernel) rfl rfl (Nat.le_of_ble_eq_true rfl) dX6_undo_27 (fun H locs hP hD hS => ?_)
      have hP : va_P (gD G) vwCl (w0_X6_undo G qy qyn qyt qyu qyf qyr qyb qyk qyi qyx yn yt yu yf yr yb yk yi yx za_3 (zs - (1 : Int32)) zl zt zg zr zm) H := hP
      have hD : va_D A (w0_X6_undo G qy qyn qyt qyu qyf qyr qyb qyk qyi qyx yn yt yu yf yr yb yk yi yx za_3 (zs - (1 : Int32)) zl zt zg zr zm) := hD
      refine lv_iconst (v := 0) hx hb dX6_undo_30 (by decide) ?_
      refine lv_istore_n (lv' := [(1, .int (0 : Int32)), (0, .ref qy)]) hx hb dX6_undo_31 rfl hl (by decide) rfl (fun ls hl => ?_)
      obtain ⟨n32, hw⟩ := hw
      exact J32 n32 yn za_3 (zs - (1 : Int32)) (0 : Int32) _ _ _ hP hD hS (lv_sub hl [1, 0] rfl) hw
    · have hw := hw.2 cd4
      exact fin_v (yn, za_3, zs) hx hb hr hlocks hK hS hP hD hw dX6_undo_19
  unfold wn_X6_undo at hw
  refine lv_aload_n hx hb dX6_undo_0 rfl (lv_at hl 0 rfl) ?_
  refine lv_aload_n hx hb dX6_undo_1 rfl (lv_at hl 0 rfl) ?_
  refine va_get (D := gD G) (ci := 6) (v := .int zs) (C := RX6) (T := TX6) (N := 16) hx hb hts k_X6_undo_inX6 hown hK hP 0 rfl rfl 7 (by decide) (hts _ k_X6_undo_f70) (fun _ h9 => h9) rfl dX6_undo_2 ?_
  refine lv_if_ne (tgt := 12) hx hb dX6_undo_5 (by decide) (fun cd1 => ?_) (fun cd1 => ?_)
  · have hw := hw.1 cd1
    refine lv_iconst (v := 0) hx hb dX6_undo_12 (by decide) ?_
    exact J13 yn za zs (0 : Int32) _ _ _ (Or.inl rfl) hP hD hS hl hw
  · have hw := hw.2 cd1
    refine lv_iconst (v := 1) hx hb dX6_undo_8 (by decide) ?_
    refine lv_goto (tgt := 13) hx hb dX6_undo_9 (by decide) ?_
    exact J13 yn za zs (1 : Int32) _ _ _ (Or.inr rfl) hP hD hS hl hw

abbrev w0_X6_savedStates (G : mG) (qy : Nat) (qyn : Nat) (qyt : Nat) (qyu : Nat) (qyf : Nat) (qyr : Nat) (qyb : Nat) (qyk : Nat) (qyi : Nat) (qyx : Nat) (yn : Nat → Int32) (yt : Nat → Int32) (yu : Nat → Int32) (yf : Nat → Int32) (yr : Nat → Int32) (yb : Nat → Int32) (yk : Nat → Int32) (yi : Nat → Int32) (yx : Nat → Int32) (za : Int32) (zs : Int32) (zl : Int32) (zt : Int32) (zg : Int32) (zr : Int32) (zm : Int32) : va_W := [(qy, .inr (6, [.int za, .ref qyn, .ref qyt, .ref qyu, .ref qyf, .ref qyr, .ref qyb, .int zs, .ref qyk, .ref qyi, .ref qyx, .int zl, .int zt, .int zg, .int zr, .int zm])), (qyn, .inl (gI G, (45, .inl yn))), (qyt, .inl (gI G, (45, .inl yt))), (qyu, .inl (gI G, (16384, .inl yu))), (qyf, .inl (gI G, (14, .inl yf))), (qyr, .inl (gI G, (14, .inl yr))), (qyb, .inl (gI G, (270, .inl yb))), (qyk, .inl (gI G, (90, .inl yk))), (qyi, .inl (gZ G, (2, .inl yi))), (qyx, .inl (gI G, (60, .inl yx)))]
set_option maxRecDepth 100000 in
theorem k_X6_savedStates_inX6 : ∀ w ∈ u_ws RX6 TX6 16, w ∈ wsX6_savedStates := by decide +kernel
set_option maxRecDepth 100000 in
theorem k_X6_savedStates_f38 : Cond.fieldLink RX6 38 "RehearsalRoomModel" "refusal" "I" ∈ wsX6_savedStates := by decide +kernel
set_option maxRecDepth 100000 in
theorem k_X6_savedStates_f70 : Cond.fieldLink RX6 70 "RehearsalRoomModel" "states" "I" ∈ wsX6_savedStates := by decide +kernel
set_option maxHeartbeats 8000000 in
set_option maxRecDepth 100000 in
theorem cn_X6_savedStates (l : Launch) (G : mG) (qy : Nat) (qyn : Nat) (qyt : Nat) (qyu : Nat) (qyf : Nat) (qyr : Nat) (qyb : Nat) (qyk : Nat) (qyi : Nat) (qyx : Nat) (yn : Nat → Int32) (yt : Nat → Int32) (yu : Nat → Int32) (yf : Nat → Int32) (yr : Nat → Int32) (yb : Nat → Int32) (yk : Nat → Int32) (yi : Nat → Int32) (yx : Nat → Int32) (za : Int32) (zs : Int32) (zl : Int32) (zt : Int32) (zg : Int32) (zr : Int32) (zm : Int32) {Q : Int32 → Int32 → Prop} (hw : wn_X6_savedStates za zs Q) (sz : Nat) :
    Met l yX6_savedStates wsX6_savedStates ({ frames := 0, cells := 0, slots := 0, locals := 0 } : Room) (va_Pc [.ref qy] (mPre G (w0_X6_savedStates G qy qyn qyt qyu qyf qyr qyb qyk qyi qyx yn yt yu yf yr yb yk yi yx za zs zl zt zg zr zm) sz)) (va_Qi (fun (r : Int32) (u : Int32) => Q r u) (mBk G (va_A (w0_X6_savedStates G qy qyn qyt qyu qyf qyr qyb qyk qyi qyx yn yt yu yf yr yb yk yi yx za zs zl zt zg zr zm) sz) (fun (u : Int32) => (w0_X6_savedStates G qy qyn qyt qyu qyf qyr qyb qyk qyi qyx yn yt yu yf yr yb yk yi yx u zs zl zt zg zr zm))) (va_A (w0_X6_savedStates G qy qyn qyt qyu qyf qyr qyb qyk qyi qyx yn yt yu yf yr yb yk yi yx za zs zl zt zg zr zm) sz)) 0 0 (va_A (w0_X6_savedStates G qy qyn qyt qyu qyf qyr qyb qyk qyi qyx yn yt yu yf yr yb yk yi yx za zs zl zt zg zr zm) sz) := by
  refine ms_i (cc := cX6_savedStates) (maxL := 1) (ret := some .int) (post := (fun (r : Int32) (u : Int32) => Q r u)) (w1 := (fun (u : Int32) => (w0_X6_savedStates G qy qyn qyt qyu qyf qyr qyb qyk qyi qyx yn yt yu yf yr yb yk yi yx u zs zl zt zg zr zm))) (by decide) rfl (Nat.le_of_ble_eq_true rfl) ?_ sz
  intro p e s m below meth c A ls H locs hx hb hr hml hown hts hlocks hK hG hP hD hS hA hl
  have hown : s.vm.findClass RX6 = some m.cls := hown
  have hl : lv_has ls 1 [(0, .ref qy)] := hl
  unfold wn_X6_savedStates at hw
  refine lv_aload_n hx hb dX6_savedStates_0 rfl (lv_at hl 0 rfl) ?_
  refine lv_iconst (v := 0) hx hb dX6_savedStates_1 (by decide) ?_
  refine va_put (D := gD G) (ci := 6) (v := .int (0 : Int32)) (ty := .int) (C := RX6) (T := TX6) (N := 16) hx hb hts k_X6_savedStates_inX6 tyX6 tyX6_ok nmX6 hown hK hP hD hS 0 rfl rfl 0 (by decide) (hts _ k_X6_savedStates_f38) (fun _ h9 => h9) rfl (by decide +kernel) rfl rfl (Nat.le_of_ble_eq_true rfl) dX6_savedStates_2 (fun H locs hP hD hS => ?_)
  have hP : va_P (gD G) vwCl (w0_X6_savedStates G qy qyn qyt qyu qyf qyr qyb qyk qyi qyx yn yt yu yf yr yb yk yi yx (0 : Int32) zs zl zt zg zr zm) H := hP
  have hD : va_D A (w0_X6_savedStates G qy qyn qyt qyu qyf qyr qyb qyk qyi qyx yn yt yu yf yr yb yk yi yx (0 : Int32) zs zl zt zg zr zm) := hD
  refine lv_aload_n hx hb dX6_savedStates_5 rfl (lv_at hl 0 rfl) ?_
  refine va_get (D := gD G) (ci := 6) (v := .int zs) (C := RX6) (T := TX6) (N := 16) hx hb hts k_X6_savedStates_inX6 hown hK hP 0 rfl rfl 7 (by decide) (hts _ k_X6_savedStates_f70) (fun _ h9 => h9) rfl dX6_savedStates_6 ?_
  exact fin_i ((0 : Int32)) hx hb hr hlocks hK hS hP hD hw dX6_savedStates_9

abbrev w0_X6_tell (G : mG) (qy : Nat) (qyn : Nat) (qyt : Nat) (qyu : Nat) (qyf : Nat) (qyr : Nat) (qyb : Nat) (qyk : Nat) (qyi : Nat) (qyx : Nat) (yn : Nat → Int32) (yt : Nat → Int32) (yu : Nat → Int32) (yf : Nat → Int32) (yr : Nat → Int32) (yb : Nat → Int32) (yk : Nat → Int32) (yi : Nat → Int32) (yx : Nat → Int32) (za : Int32) (zs : Int32) (zl : Int32) (zt : Int32) (zg : Int32) (zr : Int32) (zm : Int32) : va_W := [(qy, .inr (6, [.int za, .ref qyn, .ref qyt, .ref qyu, .ref qyf, .ref qyr, .ref qyb, .int zs, .ref qyk, .ref qyi, .ref qyx, .int zl, .int zt, .int zg, .int zr, .int zm])), (qyn, .inl (gI G, (45, .inl yn))), (qyt, .inl (gI G, (45, .inl yt))), (qyu, .inl (gI G, (16384, .inl yu))), (qyf, .inl (gI G, (14, .inl yf))), (qyr, .inl (gI G, (14, .inl yr))), (qyb, .inl (gI G, (270, .inl yb))), (qyk, .inl (gI G, (90, .inl yk))), (qyi, .inl (gZ G, (2, .inl yi))), (qyx, .inl (gI G, (60, .inl yx)))]
set_option maxRecDepth 100000 in
theorem k_X6_tell_inX6 : ∀ w ∈ u_ws RX6 TX6 16, w ∈ wsX6_tell := by decide +kernel
set_option maxRecDepth 100000 in
theorem k_X6_tell_f38 : Cond.fieldLink RX6 38 "RehearsalRoomModel" "refusal" "I" ∈ wsX6_tell := by decide +kernel
set_option maxRecDepth 100000 in
theorem k_X6_tell_f7 : Cond.fieldLink RX6 7 "RehearsalRoomModel" "now" "[I" ∈ wsX6_tell := by decide +kernel
set_option maxHeartbeats 8000000 in
set_option maxRecDepth 100000 in
theorem cn_X6_tell (l : Launch) (G : mG) (qy : Nat) (qyn : Nat) (qyt : Nat) (qyu : Nat) (qyf : Nat) (qyr : Nat) (qyb : Nat) (qyk : Nat) (qyi : Nat) (qyx : Nat) (yn : Nat → Int32) (yt : Nat → Int32) (yu : Nat → Int32) (yf : Nat → Int32) (yr : Nat → Int32) (yb : Nat → Int32) (yk : Nat → Int32) (yi : Nat → Int32) (yx : Nat → Int32) (za : Int32) (zs : Int32) (zl : Int32) (zt : Int32) (zg : Int32) (zr : Int32) (zm : Int32) (a1 : Int32) {Q : Int32 → Int32 → Prop} (hw : wn_X6_tell yn za a1 Q) (sz : Nat) :
    Met l yX6_tell wsX6_tell ({ frames := 0, cells := 0, slots := 0, locals := 0 } : Room) (va_Pc [.ref qy, .int a1] (mPre G (w0_X6_tell G qy qyn qyt qyu qyf qyr qyb qyk qyi qyx yn yt yu yf yr yb yk yi yx za zs zl zt zg zr zm) sz)) (va_Qi (fun (r : Int32) (u : Int32) => Q r u) (mBk G (va_A (w0_X6_tell G qy qyn qyt qyu qyf qyr qyb qyk qyi qyx yn yt yu yf yr yb yk yi yx za zs zl zt zg zr zm) sz) (fun (u : Int32) => (w0_X6_tell G qy qyn qyt qyu qyf qyr qyb qyk qyi qyx yn yt yu yf yr yb yk yi yx u zs zl zt zg zr zm))) (va_A (w0_X6_tell G qy qyn qyt qyu qyf qyr qyb qyk qyi qyx yn yt yu yf yr yb yk yi yx za zs zl zt zg zr zm) sz)) 0 0 (va_A (w0_X6_tell G qy qyn qyt qyu qyf qyr qyb qyk qyi qyx yn yt yu yf yr yb yk yi yx za zs zl zt zg zr zm) sz) := by
  refine ms_i (cc := cX6_tell) (maxL := 2) (ret := some .int) (post := (fun (r : Int32) (u : Int32) => Q r u)) (w1 := (fun (u : Int32) => (w0_X6_tell G qy qyn qyt qyu qyf qyr qyb qyk qyi qyx yn yt yu yf yr yb yk yi yx u zs zl zt zg zr zm))) (by decide) rfl (Nat.le_of_ble_eq_true rfl) ?_ sz
  intro p e s m below meth c A ls H locs hx hb hr hml hown hts hlocks hK hG hP hD hS hA hl
  have hown : s.vm.findClass RX6 = some m.cls := hown
  have hl : lv_has ls 2 [(0, .ref qy), (1, .int a1)] := hl
  unfold wn_X6_tell at hw
  refine lv_aload_n hx hb dX6_tell_0 rfl (lv_at hl 0 rfl) ?_
  refine lv_iconst (v := 0) hx hb dX6_tell_1 (by decide) ?_
  refine va_put (D := gD G) (ci := 6) (v := .int (0 : Int32)) (ty := .int) (C := RX6) (T := TX6) (N := 16) hx hb hts k_X6_tell_inX6 tyX6 tyX6_ok nmX6 hown hK hP hD hS 0 rfl rfl 0 (by decide) (hts _ k_X6_tell_f38) (fun _ h9 => h9) rfl (by decide +kernel) rfl rfl (Nat.le_of_ble_eq_true rfl) dX6_tell_2 (fun H locs hP hD hS => ?_)
  have hP : va_P (gD G) vwCl (w0_X6_tell G qy qyn qyt qyu qyf qyr qyb qyk qyi qyx yn yt yu yf yr yb yk yi yx (0 : Int32) zs zl zt zg zr zm) H := hP
  have hD : va_D A (w0_X6_tell G qy qyn qyt qyu qyf qyr qyb qyk qyi qyx yn yt yu yf yr yb yk yi yx (0 : Int32) zs zl zt zg zr zm) := hD
  refine lv_aload_n hx hb dX6_tell_5 rfl (lv_at hl 0 rfl) ?_
  refine va_get (D := gD G) (ci := 6) (v := .ref qyn) (C := RX6) (T := TX6) (N := 16) hx hb hts k_X6_tell_inX6 hown hK hP 0 rfl rfl 1 (by decide) (hts _ k_X6_tell_f7) (fun _ h9 => h9) rfl dX6_tell_6 ?_
  refine lv_iload_n hx hb dX6_tell_9 rfl (lv_at hl 1 rfl) ?_
  obtain ⟨h1, hw⟩ := hw
  refine va_iald hx hb hK hP 1 0 rfl rfl h1 dX6_tell_10 ?_
  exact fin_i ((0 : Int32)) hx hb hr hlocks hK hS hP hD hw dX6_tell_11

abbrev w0_X6_rehearsals (G : mG) (qy : Nat) (qyn : Nat) (qyt : Nat) (qyu : Nat) (qyf : Nat) (qyr : Nat) (qyb : Nat) (qyk : Nat) (qyi : Nat) (qyx : Nat) (yn : Nat → Int32) (yt : Nat → Int32) (yu : Nat → Int32) (yf : Nat → Int32) (yr : Nat → Int32) (yb : Nat → Int32) (yk : Nat → Int32) (yi : Nat → Int32) (yx : Nat → Int32) (za : Int32) (zs : Int32) (zl : Int32) (zt : Int32) (zg : Int32) (zr : Int32) (zm : Int32) : va_W := [(qy, .inr (6, [.int za, .ref qyn, .ref qyt, .ref qyu, .ref qyf, .ref qyr, .ref qyb, .int zs, .ref qyk, .ref qyi, .ref qyx, .int zl, .int zt, .int zg, .int zr, .int zm])), (qyn, .inl (gI G, (45, .inl yn))), (qyt, .inl (gI G, (45, .inl yt))), (qyu, .inl (gI G, (16384, .inl yu))), (qyf, .inl (gI G, (14, .inl yf))), (qyr, .inl (gI G, (14, .inl yr))), (qyb, .inl (gI G, (270, .inl yb))), (qyk, .inl (gI G, (90, .inl yk))), (qyi, .inl (gZ G, (2, .inl yi))), (qyx, .inl (gI G, (60, .inl yx)))]
set_option maxHeartbeats 8000000 in
set_option maxRecDepth 100000 in
theorem cn_X6_rehearsals (l : Launch) (G : mG) (qy : Nat) (qyn : Nat) (qyt : Nat) (qyu : Nat) (qyf : Nat) (qyr : Nat) (qyb : Nat) (qyk : Nat) (qyi : Nat) (qyx : Nat) (yn : Nat → Int32) (yt : Nat → Int32) (yu : Nat → Int32) (yf : Nat → Int32) (yr : Nat → Int32) (yb : Nat → Int32) (yk : Nat → Int32) (yi : Nat → Int32) (yx : Nat → Int32) (za : Int32) (zs : Int32) (zl : Int32) (zt : Int32) (zg : Int32) (zr : Int32) (zm : Int32) {Q : Int32 → Int32 → Prop} (hw : wn_X6_rehearsals yn za Q) (sz : Nat) :
    Met l yX6_rehearsals wsX6_rehearsals ({ frames := 1, cells := 0, slots := 0, locals := 21 } : Room) (va_Pc [.ref qy] (mPre G (w0_X6_rehearsals G qy qyn qyt qyu qyf qyr qyb qyk qyi qyx yn yt yu yf yr yb yk yi yx za zs zl zt zg zr zm) sz)) (va_Qi (fun (r : Int32) (u : Int32) => Q r u) (mBk G (va_A (w0_X6_rehearsals G qy qyn qyt qyu qyf qyr qyb qyk qyi qyx yn yt yu yf yr yb yk yi yx za zs zl zt zg zr zm) sz) (fun (u : Int32) => (w0_X6_rehearsals G qy qyn qyt qyu qyf qyr qyb qyk qyi qyx yn yt yu yf yr yb yk yi yx u zs zl zt zg zr zm))) (va_A (w0_X6_rehearsals G qy qyn qyt qyu qyf qyr qyb qyk qyi qyx yn yt yu yf yr yb yk yi yx za zs zl zt zg zr zm) sz)) 0 0 (va_A (w0_X6_rehearsals G qy qyn qyt qyu qyf qyr qyb qyk qyi qyx yn yt yu yf yr yb yk yi yx za zs zl zt zg zr zm) sz) := by
  refine ms_i (cc := cX6_rehearsals) (maxL := 1) (ret := some .int) (post := (fun (r : Int32) (u : Int32) => Q r u)) (w1 := (fun (u : Int32) => (w0_X6_rehearsals G qy qyn qyt qyu qyf qyr qyb qyk qyi qyx yn yt yu yf yr yb yk yi yx u zs zl zt zg zr zm))) (by decide) rfl (Nat.le_of_ble_eq_true rfl) ?_ sz
  intro p e s m below meth c A ls H locs hx hb hr hml hown hts hlocks hK hG hP hD hS hA hl
  have hown : s.vm.findClass RX6 = some m.cls := hown
  have hl : lv_has ls 1 [(0, .ref qy)] := hl
  unfold wn_X6_rehearsals at hw
  refine lv_aload_n hx hb dX6_rehearsals_0 rfl (lv_at hl 0 rfl) ?_
  refine lv_bipush (v := 44) hx hb dX6_rehearsals_1 (by decide) ?_
  refine kc_i (kr_V [] ⟨hx, hb, hml, hown, hts⟩ (cn_X6_tell l G qy qyn qyt qyu qyf qyr qyb qyk qyi qyx yn yt yu yf yr yb yk yi yx za zs zl zt zg zr zm (44 : Int32) hw H.size) (cwV 1 hts gX6_rehearsals_X6_tell rfl rfl rfl (by decide +kernel) ⟨Nat.le_of_ble_eq_true rfl, Nat.le_of_ble_eq_true rfl⟩) hK hG hP hD hS hA [0, 1, 2, 3, 4, 5, 6, 7, 8, 9] rfl rfl 6 0 rfl rfl rfl hl.1 rfl (Nat.le_of_ble_eq_true rfl) dX6_rehearsals_3 ⟨Nat.le_of_ble_eq_true rfl, Nat.le_of_ble_eq_true rfl⟩) hP hD hS hA [0, 1, 2, 3, 4, 5, 6, 7, 8, 9] [] rfl rfl rfl (by decide) (fun r1 u H locs hw hP hD hS => ?_)
  obtain ⟨za_2, rfl⟩ : ∃ z, z = u := ⟨_, rfl⟩
  try dsimp only at hw
  have hP := hP.sub (ws' := (w0_X6_rehearsals G qy qyn qyt qyu qyf qyr qyb qyk qyi qyx yn yt yu yf yr yb yk yi yx za_2 zs zl zt zg zr zm)) [0, 1, 2, 3, 4, 5, 6, 7, 8, 9] rfl
  have hD := hD.sub (ws' := (w0_X6_rehearsals G qy qyn qyt qyu qyf qyr qyb qyk qyi qyx yn yt yu yf yr yb yk yi yx za_2 zs zl zt zg zr zm)) [0, 1, 2, 3, 4, 5, 6, 7, 8, 9] rfl rfl
  exact fin_i (za_2) hx hb hr hlocks hK hS hP hD hw dX6_rehearsals_6

abbrev w0_X6_beginOf (G : mG) (qy : Nat) (qyn : Nat) (qyt : Nat) (qyu : Nat) (qyf : Nat) (qyr : Nat) (qyb : Nat) (qyk : Nat) (qyi : Nat) (qyx : Nat) (yn : Nat → Int32) (yt : Nat → Int32) (yu : Nat → Int32) (yf : Nat → Int32) (yr : Nat → Int32) (yb : Nat → Int32) (yk : Nat → Int32) (yi : Nat → Int32) (yx : Nat → Int32) (za : Int32) (zs : Int32) (zl : Int32) (zt : Int32) (zg : Int32) (zr : Int32) (zm : Int32) : va_W := [(qy, .inr (6, [.int za, .ref qyn, .ref qyt, .ref qyu, .ref qyf, .ref qyr, .ref qyb, .int zs, .ref qyk, .ref qyi, .ref qyx, .int zl, .int zt, .int zg, .int zr, .int zm])), (qyn, .inl (gI G, (45, .inl yn))), (qyt, .inl (gI G, (45, .inl yt))), (qyu, .inl (gI G, (16384, .inl yu))), (qyf, .inl (gI G, (14, .inl yf))), (qyr, .inl (gI G, (14, .inl yr))), (qyb, .inl (gI G, (270, .inl yb))), (qyk, .inl (gI G, (90, .inl yk))), (qyi, .inl (gZ G, (2, .inl yi))), (qyx, .inl (gI G, (60, .inl yx)))]
set_option maxRecDepth 100000 in
theorem k_X6_beginOf_inX6 : ∀ w ∈ u_ws RX6 TX6 16, w ∈ wsX6_beginOf := by decide +kernel
set_option maxRecDepth 100000 in
theorem k_X6_beginOf_f7 : Cond.fieldLink RX6 7 "RehearsalRoomModel" "now" "[I" ∈ wsX6_beginOf := by decide +kernel
set_option maxHeartbeats 8000000 in
set_option maxRecDepth 100000 in
theorem cn_X6_beginOf (l : Launch) (G : mG) (qy : Nat) (qyn : Nat) (qyt : Nat) (qyu : Nat) (qyf : Nat) (qyr : Nat) (qyb : Nat) (qyk : Nat) (qyi : Nat) (qyx : Nat) (yn : Nat → Int32) (yt : Nat → Int32) (yu : Nat → Int32) (yf : Nat → Int32) (yr : Nat → Int32) (yb : Nat → Int32) (yk : Nat → Int32) (yi : Nat → Int32) (yx : Nat → Int32) (za : Int32) (zs : Int32) (zl : Int32) (zt : Int32) (zg : Int32) (zr : Int32) (zm : Int32) (a1 : Int32) {Q : Int32 → Int32 → Prop} (hw : wn_X6_beginOf yn za a1 Q) (sz : Nat) :
    Met l yX6_beginOf wsX6_beginOf ({ frames := 3, cells := 0, slots := 0, locals := 67 } : Room) (va_Pc [.ref qy, .int a1] (mPre G (w0_X6_beginOf G qy qyn qyt qyu qyf qyr qyb qyk qyi qyx yn yt yu yf yr yb yk yi yx za zs zl zt zg zr zm) sz)) (va_Qi (fun (r : Int32) (u : Int32) => Q r u) (mBk G (va_A (w0_X6_beginOf G qy qyn qyt qyu qyf qyr qyb qyk qyi qyx yn yt yu yf yr yb yk yi yx za zs zl zt zg zr zm) sz) (fun (u : Int32) => (w0_X6_beginOf G qy qyn qyt qyu qyf qyr qyb qyk qyi qyx yn yt yu yf yr yb yk yi yx u zs zl zt zg zr zm))) (va_A (w0_X6_beginOf G qy qyn qyt qyu qyf qyr qyb qyk qyi qyx yn yt yu yf yr yb yk yi yx za zs zl zt zg zr zm) sz)) 0 0 (va_A (w0_X6_beginOf G qy qyn qyt qyu qyf qyr qyb qyk qyi qyx yn yt yu yf yr yb yk yi yx za zs zl zt zg zr zm) sz) := by
  refine ms_i (cc := cX6_beginOf) (maxL := 2) (ret := some .int) (post := (fun (r : Int32) (u : Int32) => Q r u)) (w1 := (fun (u : Int32) => (w0_X6_beginOf G qy qyn qyt qyu qyf qyr qyb qyk qyi qyx yn yt yu yf yr yb yk yi yx u zs zl zt zg zr zm))) (by decide) rfl (Nat.le_of_ble_eq_true rfl) ?_ sz
  intro p e s m below meth c A ls H locs hx hb hr hml hown hts hlocks hK hG hP hD hS hA hl
  have hown : s.vm.findClass RX6 = some m.cls := hown
  have hl : lv_has ls 2 [(0, .ref qy), (1, .int a1)] := hl
  unfold wn_X6_beginOf at hw
  refine lv_aload_n hx hb dX6_beginOf_0 rfl (lv_at hl 0 rfl) ?_
  refine lv_iload_n hx hb dX6_beginOf_1 rfl (lv_at hl 1 rfl) ?_
  refine kc_i (kr_V [] ⟨hx, hb, hml, hown, hts⟩ (cn_X6_noOne l G qy qyn qyt qyu qyf qyr qyb qyk qyi qyx yn yt yu yf yr yb yk yi yx za zs zl zt zg zr zm a1 hw H.size) (cwV 1 hts gX6_beginOf_X6_noOne rfl rfl rfl (by decide +kernel) ⟨Nat.le_of_ble_eq_true rfl, Nat.le_of_ble_eq_true rfl⟩) hK hG hP hD hS hA [0, 1, 2, 3, 4, 5, 6, 7, 8, 9] rfl rfl 6 0 rfl rfl rfl hl.1 rfl (Nat.le_of_ble_eq_true rfl) dX6_beginOf_2 ⟨Nat.le_of_ble_eq_true rfl, Nat.le_of_ble_eq_true rfl⟩) hP hD hS hA [0, 1, 2, 3, 4, 5, 6, 7, 8, 9] [] rfl rfl rfl (by decide) (fun r1 u H locs hw hP hD hS => ?_)
  obtain ⟨za_2, rfl⟩ : ∃ z, z = u := ⟨_, rfl⟩
  try dsimp only at hw
  have hP := hP.sub (ws' := (w0_X6_beginOf G qy qyn qyt qyu qyf qyr qyb qyk qyi qyx yn yt yu yf yr yb yk yi yx za_2 zs zl zt zg zr zm)) [0, 1, 2, 3, 4, 5, 6, 7, 8, 9] rfl
  have hD := hD.sub (ws' := (w0_X6_beginOf G qy qyn qyt qyu qyf qyr qyb qyk qyi qyx yn yt yu yf yr yb yk yi yx za_2 zs zl zt zg zr zm)) [0, 1, 2, 3, 4, 5, 6, 7, 8, 9] rfl rfl
  obtain ⟨hz_r1, hw⟩ := hw
  refine lv_if_eq (tgt := 12) hx hb dX6_beginOf_5 (by decide) (fun cd3 => ?_) (fun cd3 => ?_)
  · have hw := hw.1 cd3
    refine lv_aload_n hx hb dX6_beginOf_12 rfl (lv_at hl 0 rfl) ?_
    refine va_get (D := gD G) (ci := 6) (v := .ref qyn) (C := RX6) (T := TX6) (N := 16) hx hb hts k_X6_beginOf_inX6 hown hK hP 0 rfl rfl 1 (by decide) (hts _ k_X6_beginOf_f7) (fun _ h9 => h9) rfl dX6_beginOf_13 ?_
    refine lv_iload_n hx hb dX6_beginOf_16 rfl (lv_at hl 1 rfl) ?_
    obtain ⟨h4, hw⟩ := hw
    refine va_iald hx hb hK hP 1 0 rfl rfl h4 dX6_beginOf_17 ?_
    exact fin_i (za_2) hx hb hr hlocks hK hS hP hD hw dX6_beginOf_18
  · have hw := hw.2 cd3
    refine lv_iconst (v := 0) hx hb dX6_beginOf_8 (by decide) ?_
    refine lv_goto (tgt := 18) hx hb dX6_beginOf_9 (by decide) ?_
    exact fin_i (za_2) hx hb hr hlocks hK hS hP hD hw dX6_beginOf_18

abbrev w0_X6_endOf (G : mG) (qy : Nat) (qyn : Nat) (qyt : Nat) (qyu : Nat) (qyf : Nat) (qyr : Nat) (qyb : Nat) (qyk : Nat) (qyi : Nat) (qyx : Nat) (yn : Nat → Int32) (yt : Nat → Int32) (yu : Nat → Int32) (yf : Nat → Int32) (yr : Nat → Int32) (yb : Nat → Int32) (yk : Nat → Int32) (yi : Nat → Int32) (yx : Nat → Int32) (za : Int32) (zs : Int32) (zl : Int32) (zt : Int32) (zg : Int32) (zr : Int32) (zm : Int32) : va_W := [(qy, .inr (6, [.int za, .ref qyn, .ref qyt, .ref qyu, .ref qyf, .ref qyr, .ref qyb, .int zs, .ref qyk, .ref qyi, .ref qyx, .int zl, .int zt, .int zg, .int zr, .int zm])), (qyn, .inl (gI G, (45, .inl yn))), (qyt, .inl (gI G, (45, .inl yt))), (qyu, .inl (gI G, (16384, .inl yu))), (qyf, .inl (gI G, (14, .inl yf))), (qyr, .inl (gI G, (14, .inl yr))), (qyb, .inl (gI G, (270, .inl yb))), (qyk, .inl (gI G, (90, .inl yk))), (qyi, .inl (gZ G, (2, .inl yi))), (qyx, .inl (gI G, (60, .inl yx)))]
set_option maxRecDepth 100000 in
theorem k_X6_endOf_inX6 : ∀ w ∈ u_ws RX6 TX6 16, w ∈ wsX6_endOf := by decide +kernel
set_option maxRecDepth 100000 in
theorem k_X6_endOf_f7 : Cond.fieldLink RX6 7 "RehearsalRoomModel" "now" "[I" ∈ wsX6_endOf := by decide +kernel
set_option maxHeartbeats 8000000 in
set_option maxRecDepth 100000 in
theorem cn_X6_endOf (l : Launch) (G : mG) (qy : Nat) (qyn : Nat) (qyt : Nat) (qyu : Nat) (qyf : Nat) (qyr : Nat) (qyb : Nat) (qyk : Nat) (qyi : Nat) (qyx : Nat) (yn : Nat → Int32) (yt : Nat → Int32) (yu : Nat → Int32) (yf : Nat → Int32) (yr : Nat → Int32) (yb : Nat → Int32) (yk : Nat → Int32) (yi : Nat → Int32) (yx : Nat → Int32) (za : Int32) (zs : Int32) (zl : Int32) (zt : Int32) (zg : Int32) (zr : Int32) (zm : Int32) (a1 : Int32) {Q : Int32 → Int32 → Prop} (hw : wn_X6_endOf yn za a1 Q) (sz : Nat) :
    Met l yX6_endOf wsX6_endOf ({ frames := 3, cells := 0, slots := 0, locals := 67 } : Room) (va_Pc [.ref qy, .int a1] (mPre G (w0_X6_endOf G qy qyn qyt qyu qyf qyr qyb qyk qyi qyx yn yt yu yf yr yb yk yi yx za zs zl zt zg zr zm) sz)) (va_Qi (fun (r : Int32) (u : Int32) => Q r u) (mBk G (va_A (w0_X6_endOf G qy qyn qyt qyu qyf qyr qyb qyk qyi qyx yn yt yu yf yr yb yk yi yx za zs zl zt zg zr zm) sz) (fun (u : Int32) => (w0_X6_endOf G qy qyn qyt qyu qyf qyr qyb qyk qyi qyx yn yt yu yf yr yb yk yi yx u zs zl zt zg zr zm))) (va_A (w0_X6_endOf G qy qyn qyt qyu qyf qyr qyb qyk qyi qyx yn yt yu yf yr yb yk yi yx za zs zl zt zg zr zm) sz)) 0 0 (va_A (w0_X6_endOf G qy qyn qyt qyu qyf qyr qyb qyk qyi qyx yn yt yu yf yr yb yk yi yx za zs zl zt zg zr zm) sz) := by
  refine ms_i (cc := cX6_endOf) (maxL := 2) (ret := some .int) (post := (fun (r : Int32) (u : Int32) => Q r u)) (w1 := (fun (u : Int32) => (w0_X6_endOf G qy qyn qyt qyu qyf qyr qyb qyk qyi qyx yn yt yu yf yr yb yk yi yx u zs zl zt zg zr zm))) (by decide) rfl (Nat.le_of_ble_eq_true rfl) ?_ sz
  intro p e s m below meth c A ls H locs hx hb hr hml hown hts hlocks hK hG hP hD hS hA hl
  have hown : s.vm.findClass RX6 = some m.cls := hown
  have hl : lv_has ls 2 [(0, .ref qy), (1, .int a1)] := hl
  unfold wn_X6_endOf at hw
  refine lv_aload_n hx hb dX6_endOf_0 rfl (lv_at hl 0 rfl) ?_
  refine lv_iload_n hx hb dX6_endOf_1 rfl (lv_at hl 1 rfl) ?_
  refine kc_i (kr_V [] ⟨hx, hb, hml, hown, hts⟩ (cn_X6_noOne l G qy qyn qyt qyu qyf qyr qyb qyk qyi qyx yn yt yu yf yr yb yk yi yx za zs zl zt zg zr zm a1 hw H.size) (cwV 1 hts gX6_endOf_X6_noOne rfl rfl rfl (by decide +kernel) ⟨Nat.le_of_ble_eq_true rfl, Nat.le_of_ble_eq_true rfl⟩) hK hG hP hD hS hA [0, 1, 2, 3, 4, 5, 6, 7, 8, 9] rfl rfl 6 0 rfl rfl rfl hl.1 rfl (Nat.le_of_ble_eq_true rfl) dX6_endOf_2 ⟨Nat.le_of_ble_eq_true rfl, Nat.le_of_ble_eq_true rfl⟩) hP hD hS hA [0, 1, 2, 3, 4, 5, 6, 7, 8, 9] [] rfl rfl rfl (by decide) (fun r1 u H locs hw hP hD hS => ?_)
  obtain ⟨za_2, rfl⟩ : ∃ z, z = u := ⟨_, rfl⟩
  try dsimp only at hw
  have hP := hP.sub (ws' := (w0_X6_endOf G qy qyn qyt qyu qyf qyr qyb qyk qyi qyx yn yt yu yf yr yb yk yi yx za_2 zs zl zt zg zr zm)) [0, 1, 2, 3, 4, 5, 6, 7, 8, 9] rfl
  have hD := hD.sub (ws' := (w0_X6_endOf G qy qyn qyt qyu qyf qyr qyb qyk qyi qyx yn yt yu yf yr yb yk yi yx za_2 zs zl zt zg zr zm)) [0, 1, 2, 3, 4, 5, 6, 7, 8, 9] rfl rfl
  obtain ⟨hz_r1, hw⟩ := hw
  refine lv_if_eq (tgt := 12) hx hb dX6_endOf_5 (by decide) (fun cd3 => ?_) (fun cd3 => ?_)
  · have hw := hw.1 cd3
    refine lv_aload_n hx hb dX6_endOf_12 rfl (lv_at hl 0 rfl) ?_
    refine va_get (D := gD G) (ci := 6) (v := .ref qyn) (C := RX6) (T := TX6) (N := 16) hx hb hts k_X6_endOf_inX6 hown hK hP 0 rfl rfl 1 (by decide) (hts _ k_X6_endOf_f7) (fun _ h9 => h9) rfl dX6_endOf_13 ?_
    refine lv_bipush (v := 14) hx hb dX6_endOf_16 (by decide) ?_
    refine lv_iload_n hx hb dX6_endOf_18 rfl (lv_at hl 1 rfl) ?_
    refine lv_iadd hx hb dX6_endOf_19 ?_
    obtain ⟨h4, hw⟩ := hw
    refine va_iald hx hb hK hP 1 0 rfl rfl h4 dX6_endOf_20 ?_
    exact fin_i (za_2) hx hb hr hlocks hK hS hP hD hw dX6_endOf_21
  · have hw := hw.2 cd3
    refine lv_iconst (v := 0) hx hb dX6_endOf_8 (by decide) ?_
    refine lv_goto (tgt := 21) hx hb dX6_endOf_9 (by decide) ?_
    exact fin_i (za_2) hx hb hr hlocks hK hS hP hD hw dX6_endOf_21

abbrev w0_X6_fameOf (G : mG) (qy : Nat) (qyn : Nat) (qyt : Nat) (qyu : Nat) (qyf : Nat) (qyr : Nat) (qyb : Nat) (qyk : Nat) (qyi : Nat) (qyx : Nat) (yn : Nat → Int32) (yt : Nat → Int32) (yu : Nat → Int32) (yf : Nat → Int32) (yr : Nat → Int32) (yb : Nat → Int32) (yk : Nat → Int32) (yi : Nat → Int32) (yx : Nat → Int32) (za : Int32) (zs : Int32) (zl : Int32) (zt : Int32) (zg : Int32) (zr : Int32) (zm : Int32) : va_W := [(qy, .inr (6, [.int za, .ref qyn, .ref qyt, .ref qyu, .ref qyf, .ref qyr, .ref qyb, .int zs, .ref qyk, .ref qyi, .ref qyx, .int zl, .int zt, .int zg, .int zr, .int zm])), (qyn, .inl (gI G, (45, .inl yn))), (qyt, .inl (gI G, (45, .inl yt))), (qyu, .inl (gI G, (16384, .inl yu))), (qyf, .inl (gI G, (14, .inl yf))), (qyr, .inl (gI G, (14, .inl yr))), (qyb, .inl (gI G, (270, .inl yb))), (qyk, .inl (gI G, (90, .inl yk))), (qyi, .inl (gZ G, (2, .inl yi))), (qyx, .inl (gI G, (60, .inl yx)))]
set_option maxRecDepth 100000 in
theorem k_X6_fameOf_inX6 : ∀ w ∈ u_ws RX6 TX6 16, w ∈ wsX6_fameOf := by decide +kernel
set_option maxRecDepth 100000 in
theorem k_X6_fameOf_f7 : Cond.fieldLink RX6 7 "RehearsalRoomModel" "now" "[I" ∈ wsX6_fameOf := by decide +kernel
set_option maxHeartbeats 8000000 in
set_option maxRecDepth 100000 in
theorem cn_X6_fameOf (l : Launch) (G : mG) (qy : Nat) (qyn : Nat) (qyt : Nat) (qyu : Nat) (qyf : Nat) (qyr : Nat) (qyb : Nat) (qyk : Nat) (qyi : Nat) (qyx : Nat) (yn : Nat → Int32) (yt : Nat → Int32) (yu : Nat → Int32) (yf : Nat → Int32) (yr : Nat → Int32) (yb : Nat → Int32) (yk : Nat → Int32) (yi : Nat → Int32) (yx : Nat → Int32) (za : Int32) (zs : Int32) (zl : Int32) (zt : Int32) (zg : Int32) (zr : Int32) (zm : Int32) (a1 : Int32) {Q : Int32 → Int32 → Prop} (hw : wn_X6_fameOf yn za a1 Q) (sz : Nat) :
    Met l yX6_fameOf wsX6_fameOf ({ frames := 3, cells := 0, slots := 0, locals := 67 } : Room) (va_Pc [.ref qy, .int a1] (mPre G (w0_X6_fameOf G qy qyn qyt qyu qyf qyr qyb qyk qyi qyx yn yt yu yf yr yb yk yi yx za zs zl zt zg zr zm) sz)) (va_Qi (fun (r : Int32) (u : Int32) => Q r u) (mBk G (va_A (w0_X6_fameOf G qy qyn qyt qyu qyf qyr qyb qyk qyi qyx yn yt yu yf yr yb yk yi yx za zs zl zt zg zr zm) sz) (fun (u : Int32) => (w0_X6_fameOf G qy qyn qyt qyu qyf qyr qyb qyk qyi qyx yn yt yu yf yr yb yk yi yx u zs zl zt zg zr zm))) (va_A (w0_X6_fameOf G qy qyn qyt qyu qyf qyr qyb qyk qyi qyx yn yt yu yf yr yb yk yi yx za zs zl zt zg zr zm) sz)) 0 0 (va_A (w0_X6_fameOf G qy qyn qyt qyu qyf qyr qyb qyk qyi qyx yn yt yu yf yr yb yk yi yx za zs zl zt zg zr zm) sz) := by
  refine ms_i (cc := cX6_fameOf) (maxL := 2) (ret := some .int) (post := (fun (r : Int32) (u : Int32) => Q r u)) (w1 := (fun (u : Int32) => (w0_X6_fameOf G qy qyn qyt qyu qyf qyr qyb qyk qyi qyx yn yt yu yf yr yb yk yi yx u zs zl zt zg zr zm))) (by decide) rfl (Nat.le_of_ble_eq_true rfl) ?_ sz
  intro p e s m below meth c A ls H locs hx hb hr hml hown hts hlocks hK hG hP hD hS hA hl
  have hown : s.vm.findClass RX6 = some m.cls := hown
  have hl : lv_has ls 2 [(0, .ref qy), (1, .int a1)] := hl
  unfold wn_X6_fameOf at hw
  refine lv_aload_n hx hb dX6_fameOf_0 rfl (lv_at hl 0 rfl) ?_
  refine lv_iload_n hx hb dX6_fameOf_1 rfl (lv_at hl 1 rfl) ?_
  refine kc_i (kr_V [] ⟨hx, hb, hml, hown, hts⟩ (cn_X6_noOne l G qy qyn qyt qyu qyf qyr qyb qyk qyi qyx yn yt yu yf yr yb yk yi yx za zs zl zt zg zr zm a1 hw H.size) (cwV 1 hts gX6_fameOf_X6_noOne rfl rfl rfl (by decide +kernel) ⟨Nat.le_of_ble_eq_true rfl, Nat.le_of_ble_eq_true rfl⟩) hK hG hP hD hS hA [0, 1, 2, 3, 4, 5, 6, 7, 8, 9] rfl rfl 6 0 rfl rfl rfl hl.1 rfl (Nat.le_of_ble_eq_true rfl) dX6_fameOf_2 ⟨Nat.le_of_ble_eq_true rfl, Nat.le_of_ble_eq_true rfl⟩) hP hD hS hA [0, 1, 2, 3, 4, 5, 6, 7, 8, 9] [] rfl rfl rfl (by decide) (fun r1 u H locs hw hP hD hS => ?_)
  obtain ⟨za_2, rfl⟩ : ∃ z, z = u := ⟨_, rfl⟩
  try dsimp only at hw
  have hP := hP.sub (ws' := (w0_X6_fameOf G qy qyn qyt qyu qyf qyr qyb qyk qyi qyx yn yt yu yf yr yb yk yi yx za_2 zs zl zt zg zr zm)) [0, 1, 2, 3, 4, 5, 6, 7, 8, 9] rfl
  have hD := hD.sub (ws' := (w0_X6_fameOf G qy qyn qyt qyu qyf qyr qyb qyk qyi qyx yn yt yu yf yr yb yk yi yx za_2 zs zl zt zg zr zm)) [0, 1, 2, 3, 4, 5, 6, 7, 8, 9] rfl rfl
  obtain ⟨hz_r1, hw⟩ := hw
  refine lv_if_eq (tgt := 12) hx hb dX6_fameOf_5 (by decide) (fun cd3 => ?_) (fun cd3 => ?_)
  · have hw := hw.1 cd3
    refine lv_aload_n hx hb dX6_fameOf_12 rfl (lv_at hl 0 rfl) ?_
    refine va_get (D := gD G) (ci := 6) (v := .ref qyn) (C := RX6) (T := TX6) (N := 16) hx hb hts k_X6_fameOf_inX6 hown hK hP 0 rfl rfl 1 (by decide) (hts _ k_X6_fameOf_f7) (fun _ h9 => h9) rfl dX6_fameOf_13 ?_
    refine lv_bipush (v := 28) hx hb dX6_fameOf_16 (by decide) ?_
    refine lv_iload_n hx hb dX6_fameOf_18 rfl (lv_at hl 1 rfl) ?_
    refine lv_iadd hx hb dX6_fameOf_19 ?_
    obtain ⟨h4, hw⟩ := hw
    refine va_iald hx hb hK hP 1 0 rfl rfl h4 dX6_fameOf_20 ?_
    exact fin_i (za_2) hx hb hr hlocks hK hS hP hD hw dX6_fameOf_21
  · have hw := hw.2 cd3
    refine lv_iconst (v := 0) hx hb dX6_fameOf_8 (by decide) ?_
    refine lv_goto (tgt := 21) hx hb dX6_fameOf_9 (by decide) ?_
    exact fin_i (za_2) hx hb hr hlocks hK hS hP hD hw dX6_fameOf_21

abbrev w0_X6_rate (G : mG) (qy : Nat) (qyn : Nat) (qyt : Nat) (qyu : Nat) (qyf : Nat) (qyr : Nat) (qyb : Nat) (qyk : Nat) (qyi : Nat) (qyx : Nat) (yn : Nat → Int32) (yt : Nat → Int32) (yu : Nat → Int32) (yf : Nat → Int32) (yr : Nat → Int32) (yb : Nat → Int32) (yk : Nat → Int32) (yi : Nat → Int32) (yx : Nat → Int32) (za : Int32) (zs : Int32) (zl : Int32) (zt : Int32) (zg : Int32) (zr : Int32) (zm : Int32) : va_W := [(qy, .inr (6, [.int za, .ref qyn, .ref qyt, .ref qyu, .ref qyf, .ref qyr, .ref qyb, .int zs, .ref qyk, .ref qyi, .ref qyx, .int zl, .int zt, .int zg, .int zr, .int zm])), (qyn, .inl (gI G, (45, .inl yn))), (qyt, .inl (gI G, (45, .inl yt))), (qyu, .inl (gI G, (16384, .inl yu))), (qyf, .inl (gI G, (14, .inl yf))), (qyr, .inl (gI G, (14, .inl yr))), (qyb, .inl (gI G, (270, .inl yb))), (qyk, .inl (gI G, (90, .inl yk))), (qyi, .inl (gZ G, (2, .inl yi))), (qyx, .inl (gI G, (60, .inl yx)))]
set_option maxRecDepth 100000 in
theorem k_X6_rate_inX6 : ∀ w ∈ u_ws RX6 TX6 16, w ∈ wsX6_rate := by decide +kernel
set_option maxRecDepth 100000 in
theorem k_X6_rate_f7 : Cond.fieldLink RX6 7 "RehearsalRoomModel" "now" "[I" ∈ wsX6_rate := by decide +kernel
set_option maxHeartbeats 8000000 in
set_option maxRecDepth 100000 in
theorem cn_X6_rate (l : Launch) (G : mG) (qy : Nat) (qyn : Nat) (qyt : Nat) (qyu : Nat) (qyf : Nat) (qyr : Nat) (qyb : Nat) (qyk : Nat) (qyi : Nat) (qyx : Nat) (yn : Nat → Int32) (yt : Nat → Int32) (yu : Nat → Int32) (yf : Nat → Int32) (yr : Nat → Int32) (yb : Nat → Int32) (yk : Nat → Int32) (yi : Nat → Int32) (yx : Nat → Int32) (za : Int32) (zs : Int32) (zl : Int32) (zt : Int32) (zg : Int32) (zr : Int32) (zm : Int32) (a1 : Int32) {Q : UInt32 → Prop} (hw : wn_X6_rate yn a1 Q) (sz : Nat) :
    Met l yX6_rate wsX6_rate ({ frames := 0, cells := 0, slots := 0, locals := 0 } : Room) (va_Pc [.ref qy, .int a1] (mPre G (w0_X6_rate G qy qyn qyt qyu qyf qyr qyb qyk qyi qyx yn yt yu yf yr yb yk yi yx za zs zl zt zg zr zm) sz)) (va_Qf (fun (r : UInt32) (u : Unit) => Q r) (mBk G (va_A (w0_X6_rate G qy qyn qyt qyu qyf qyr qyb qyk qyi qyx yn yt yu yf yr yb yk yi yx za zs zl zt zg zr zm) sz) (fun (u : Unit) => (w0_X6_rate G qy qyn qyt qyu qyf qyr qyb qyk qyi qyx yn yt yu yf yr yb yk yi yx za zs zl zt zg zr zm))) (va_A (w0_X6_rate G qy qyn qyt qyu qyf qyr qyb qyk qyi qyx yn yt yu yf yr yb yk yi yx za zs zl zt zg zr zm) sz)) 0 0 (va_A (w0_X6_rate G qy qyn qyt qyu qyf qyr qyb qyk qyi qyx yn yt yu yf yr yb yk yi yx za zs zl zt zg zr zm) sz) := by
  refine ms_f (cc := cX6_rate) (maxL := 2) (ret := some .float) (post := (fun (r : UInt32) (u : Unit) => Q r)) (w1 := (fun (u : Unit) => (w0_X6_rate G qy qyn qyt qyu qyf qyr qyb qyk qyi qyx yn yt yu yf yr yb yk yi yx za zs zl zt zg zr zm))) (by decide) rfl (Nat.le_of_ble_eq_true rfl) ?_ sz
  intro p e s m below meth c A ls H locs hx hb hr hml hown hts hlocks hK hG hP hD hS hA hl
  have hown : s.vm.findClass RX6 = some m.cls := hown
  have hl : lv_has ls 2 [(0, .ref qy), (1, .int a1)] := hl
  unfold wn_X6_rate at hw
  refine lv_aload_n hx hb dX6_rate_0 rfl (lv_at hl 0 rfl) ?_
  refine va_get (D := gD G) (ci := 6) (v := .ref qyn) (C := RX6) (T := TX6) (N := 16) hx hb hts k_X6_rate_inX6 hown hK hP 0 rfl rfl 1 (by decide) (hts _ k_X6_rate_f7) (fun _ h9 => h9) rfl dX6_rate_1 ?_
  refine lv_bipush (v := 28) hx hb dX6_rate_4 (by decide) ?_
  refine lv_iload_n hx hb dX6_rate_6 rfl (lv_at hl 1 rfl) ?_
  refine lv_iadd hx hb dX6_rate_7 ?_
  obtain ⟨h1, hw⟩ := hw
  refine va_iald hx hb hK hP 1 0 rfl rfl h1 dX6_rate_8 ?_
  refine lv_i2f hx hb dX6_rate_9 ?_
  refine lv_aload_n hx hb dX6_rate_10 rfl (lv_at hl 0 rfl) ?_
  refine va_get (D := gD G) (ci := 6) (v := .ref qyn) (C := RX6) (T := TX6) (N := 16) hx hb hts k_X6_rate_inX6 hown hK hP 0 rfl rfl 1 (by decide) (hts _ k_X6_rate_f7) (fun _ h9 => h9) rfl dX6_rate_11 ?_
  refine lv_bipush (v := 14) hx hb dX6_rate_14 (by decide) ?_
  refine lv_iload_n hx hb dX6_rate_16 rfl (lv_at hl 1 rfl) ?_
  refine lv_iadd hx hb dX6_rate_17 ?_
  obtain ⟨h2, hw⟩ := hw
  refine va_iald hx hb hK hP 1 0 rfl rfl h2 dX6_rate_18 ?_
  refine lv_aload_n hx hb dX6_rate_19 rfl (lv_at hl 0 rfl) ?_
  refine va_get (D := gD G) (ci := 6) (v := .ref qyn) (C := RX6) (T := TX6) (N := 16) hx hb hts k_X6_rate_inX6 hown hK hP 0 rfl rfl 1 (by decide) (hts _ k_X6_rate_f7) (fun _ h9 => h9) rfl dX6_rate_20 ?_
  refine lv_iload_n hx hb dX6_rate_23 rfl (lv_at hl 1 rfl) ?_
  obtain ⟨h3, hw⟩ := hw
  refine va_iald hx hb hK hP 1 0 rfl rfl h3 dX6_rate_24 ?_
  refine lv_isub hx hb dX6_rate_25 ?_
  refine lv_i2f hx hb dX6_rate_26 ?_
  obtain ⟨h4, hw⟩ := hw
  refine lv_fdiv hx hb dX6_rate_27 h4 ?_
  exact fin_f () hx hb hr hlocks hK hS hP hD hw dX6_rate_28

abbrev w0_X6_famePerQuarter (G : mG) (qy : Nat) (qyn : Nat) (qyt : Nat) (qyu : Nat) (qyf : Nat) (qyr : Nat) (qyb : Nat) (qyk : Nat) (qyi : Nat) (qyx : Nat) (yn : Nat → Int32) (yt : Nat → Int32) (yu : Nat → Int32) (yf : Nat → Int32) (yr : Nat → Int32) (yb : Nat → Int32) (yk : Nat → Int32) (yi : Nat → Int32) (yx : Nat → Int32) (za : Int32) (zs : Int32) (zl : Int32) (zt : Int32) (zg : Int32) (zr : Int32) (zm : Int32) : va_W := [(qy, .inr (6, [.int za, .ref qyn, .ref qyt, .ref qyu, .ref qyf, .ref qyr, .ref qyb, .int zs, .ref qyk, .ref qyi, .ref qyx, .int zl, .int zt, .int zg, .int zr, .int zm])), (qyn, .inl (gI G, (45, .inl yn))), (qyt, .inl (gI G, (45, .inl yt))), (qyu, .inl (gI G, (16384, .inl yu))), (qyf, .inl (gI G, (14, .inl yf))), (qyr, .inl (gI G, (14, .inl yr))), (qyb, .inl (gI G, (270, .inl yb))), (qyk, .inl (gI G, (90, .inl yk))), (qyi, .inl (gZ G, (2, .inl yi))), (qyx, .inl (gI G, (60, .inl yx)))]
set_option maxHeartbeats 8000000 in
set_option maxRecDepth 100000 in
theorem cn_X6_famePerQuarter (l : Launch) (G : mG) (qy : Nat) (qyn : Nat) (qyt : Nat) (qyu : Nat) (qyf : Nat) (qyr : Nat) (qyb : Nat) (qyk : Nat) (qyi : Nat) (qyx : Nat) (yn : Nat → Int32) (yt : Nat → Int32) (yu : Nat → Int32) (yf : Nat → Int32) (yr : Nat → Int32) (yb : Nat → Int32) (yk : Nat → Int32) (yi : Nat → Int32) (yx : Nat → Int32) (za : Int32) (zs : Int32) (zl : Int32) (zt : Int32) (zg : Int32) (zr : Int32) (zm : Int32) (a1 : Int32) {Q : UInt32 → Int32 → Prop} (hw : wn_X6_famePerQuarter yn za a1 Q) (sz : Nat) :
    Met l yX6_famePerQuarter wsX6_famePerQuarter ({ frames := 3, cells := 0, slots := 0, locals := 67 } : Room) (va_Pc [.ref qy, .int a1] (mPre G (w0_X6_famePerQuarter G qy qyn qyt qyu qyf qyr qyb qyk qyi qyx yn yt yu yf yr yb yk yi yx za zs zl zt zg zr zm) sz)) (va_Qf (fun (r : UInt32) (u : Int32) => Q r u) (mBk G (va_A (w0_X6_famePerQuarter G qy qyn qyt qyu qyf qyr qyb qyk qyi qyx yn yt yu yf yr yb yk yi yx za zs zl zt zg zr zm) sz) (fun (u : Int32) => (w0_X6_famePerQuarter G qy qyn qyt qyu qyf qyr qyb qyk qyi qyx yn yt yu yf yr yb yk yi yx u zs zl zt zg zr zm))) (va_A (w0_X6_famePerQuarter G qy qyn qyt qyu qyf qyr qyb qyk qyi qyx yn yt yu yf yr yb yk yi yx za zs zl zt zg zr zm) sz)) 0 0 (va_A (w0_X6_famePerQuarter G qy qyn qyt qyu qyf qyr qyb qyk qyi qyx yn yt yu yf yr yb yk yi yx za zs zl zt zg zr zm) sz) := by
  refine ms_f (cc := cX6_famePerQuarter) (maxL := 2) (ret := some .float) (post := (fun (r : UInt32) (u : Int32) => Q r u)) (w1 := (fun (u : Int32) => (w0_X6_famePerQuarter G qy qyn qyt qyu qyf qyr qyb qyk qyi qyx yn yt yu yf yr yb yk yi yx u zs zl zt zg zr zm))) (by decide) rfl (Nat.le_of_ble_eq_true rfl) ?_ sz
  intro p e s m below meth c A ls H locs hx hb hr hml hown hts hlocks hK hG hP hD hS hA hl
  have hown : s.vm.findClass RX6 = some m.cls := hown
  have hl : lv_has ls 2 [(0, .ref qy), (1, .int a1)] := hl
  unfold wn_X6_famePerQuarter at hw
  refine lv_aload_n hx hb dX6_famePerQuarter_0 rfl (lv_at hl 0 rfl) ?_
  refine lv_iload_n hx hb dX6_famePerQuarter_1 rfl (lv_at hl 1 rfl) ?_
  refine kc_i (kr_V [] ⟨hx, hb, hml, hown, hts⟩ (cn_X6_noOne l G qy qyn qyt qyu qyf qyr qyb qyk qyi qyx yn yt yu yf yr yb yk yi yx za zs zl zt zg zr zm a1 hw H.size) (cwV 1 hts gX6_famePerQuarter_X6_noOne rfl rfl rfl (by decide +kernel) ⟨Nat.le_of_ble_eq_true rfl, Nat.le_of_ble_eq_true rfl⟩) hK hG hP hD hS hA [0, 1, 2, 3, 4, 5, 6, 7, 8, 9] rfl rfl 6 0 rfl rfl rfl hl.1 rfl (Nat.le_of_ble_eq_true rfl) dX6_famePerQuarter_2 ⟨Nat.le_of_ble_eq_true rfl, Nat.le_of_ble_eq_true rfl⟩) hP hD hS hA [0, 1, 2, 3, 4, 5, 6, 7, 8, 9] [] rfl rfl rfl (by decide) (fun r1 u H locs hw hP hD hS => ?_)
  obtain ⟨za_2, rfl⟩ : ∃ z, z = u := ⟨_, rfl⟩
  try dsimp only at hw
  have hP := hP.sub (ws' := (w0_X6_famePerQuarter G qy qyn qyt qyu qyf qyr qyb qyk qyi qyx yn yt yu yf yr yb yk yi yx za_2 zs zl zt zg zr zm)) [0, 1, 2, 3, 4, 5, 6, 7, 8, 9] rfl
  have hD := hD.sub (ws' := (w0_X6_famePerQuarter G qy qyn qyt qyu qyf qyr qyb qyk qyi qyx yn yt yu yf yr yb yk yi yx za_2 zs zl zt zg zr zm)) [0, 1, 2, 3, 4, 5, 6, 7, 8, 9] rfl rfl
  obtain ⟨hz_r1, hw⟩ := hw
  refine lv_if_eq (tgt := 12) hx hb dX6_famePerQuarter_5 (by decide) (fun cd3 => ?_) (fun cd3 => ?_)
  · have hw := hw.1 cd3
    refine lv_aload_n hx hb dX6_famePerQuarter_12 rfl (lv_at hl 0 rfl) ?_
    refine lv_iload_n hx hb dX6_famePerQuarter_13 rfl (lv_at hl 1 rfl) ?_
    refine kcR_f (kr_V [] ⟨hx, hb, hml, hown, hts⟩ (cn_X6_rate l G qy qyn qyt qyu qyf qyr qyb qyk qyi qyx yn yt yu yf yr yb yk yi yx za_2 zs zl zt zg zr zm a1 hw H.size) (cwV 1 hts gX6_famePerQuarter_X6_rate rfl rfl rfl (by decide +kernel) ⟨Nat.le_of_ble_eq_true rfl, Nat.le_of_ble_eq_true rfl⟩) hK hG hP hD hS hA [0, 1, 2, 3, 4, 5, 6, 7, 8, 9] rfl rfl 6 0 rfl rfl rfl hl.1 rfl (Nat.le_of_ble_eq_true rfl) dX6_famePerQuarter_14 ⟨Nat.le_of_ble_eq_true rfl, Nat.le_of_ble_eq_true rfl⟩) hP hD hS hA [0, 1, 2, 3, 4, 5, 6, 7, 8, 9] rfl (fun r4 u H locs hw hP hS => ?_)
    try dsimp only at hw
    exact fin_f (za_2) hx hb hr hlocks hK hS hP hD hw dX6_famePerQuarter_17
  · have hw := hw.2 cd3
    refine lv_fconst0 hx hb dX6_famePerQuarter_8 ?_
    refine lv_goto (tgt := 17) hx hb dX6_famePerQuarter_9 (by decide) ?_
    exact fin_f (za_2) hx hb hr hlocks hK hS hP hD hw dX6_famePerQuarter_17

abbrev w0_X6_isBooked (G : mG) (qy : Nat) (qyn : Nat) (qyt : Nat) (qyu : Nat) (qyf : Nat) (qyr : Nat) (qyb : Nat) (qyk : Nat) (qyi : Nat) (qyx : Nat) (yn : Nat → Int32) (yt : Nat → Int32) (yu : Nat → Int32) (yf : Nat → Int32) (yr : Nat → Int32) (yb : Nat → Int32) (yk : Nat → Int32) (yi : Nat → Int32) (yx : Nat → Int32) (za : Int32) (zs : Int32) (zl : Int32) (zt : Int32) (zg : Int32) (zr : Int32) (zm : Int32) : va_W := [(qy, .inr (6, [.int za, .ref qyn, .ref qyt, .ref qyu, .ref qyf, .ref qyr, .ref qyb, .int zs, .ref qyk, .ref qyi, .ref qyx, .int zl, .int zt, .int zg, .int zr, .int zm])), (qyn, .inl (gI G, (45, .inl yn))), (qyt, .inl (gI G, (45, .inl yt))), (qyu, .inl (gI G, (16384, .inl yu))), (qyf, .inl (gI G, (14, .inl yf))), (qyr, .inl (gI G, (14, .inl yr))), (qyb, .inl (gI G, (270, .inl yb))), (qyk, .inl (gI G, (90, .inl yk))), (qyi, .inl (gZ G, (2, .inl yi))), (qyx, .inl (gI G, (60, .inl yx)))]
set_option maxHeartbeats 8000000 in
set_option maxRecDepth 100000 in
theorem cn_X6_isBooked (l : Launch) (G : mG) (qy : Nat) (qyn : Nat) (qyt : Nat) (qyu : Nat) (qyf : Nat) (qyr : Nat) (qyb : Nat) (qyk : Nat) (qyi : Nat) (qyx : Nat) (yn : Nat → Int32) (yt : Nat → Int32) (yu : Nat → Int32) (yf : Nat → Int32) (yr : Nat → Int32) (yb : Nat → Int32) (yk : Nat → Int32) (yi : Nat → Int32) (yx : Nat → Int32) (za : Int32) (zs : Int32) (zl : Int32) (zt : Int32) (zg : Int32) (zr : Int32) (zm : Int32) (a1 : Int32) {Q : Int32 → Int32 → Prop} (hw : wn_X6_isBooked yn za a1 Q) (sz : Nat) :
    Met l yX6_isBooked wsX6_isBooked ({ frames := 3, cells := 0, slots := 0, locals := 67 } : Room) (va_Pc [.ref qy, .int a1] (mPre G (w0_X6_isBooked G qy qyn qyt qyu qyf qyr qyb qyk qyi qyx yn yt yu yf yr yb yk yi yx za zs zl zt zg zr zm) sz)) (va_Qi (fun (r : Int32) (u : Int32) => (r = 0 ∨ r = 1) ∧ Q r u) (mBk G (va_A (w0_X6_isBooked G qy qyn qyt qyu qyf qyr qyb qyk qyi qyx yn yt yu yf yr yb yk yi yx za zs zl zt zg zr zm) sz) (fun (u : Int32) => (w0_X6_isBooked G qy qyn qyt qyu qyf qyr qyb qyk qyi qyx yn yt yu yf yr yb yk yi yx u zs zl zt zg zr zm))) (va_A (w0_X6_isBooked G qy qyn qyt qyu qyf qyr qyb qyk qyi qyx yn yt yu yf yr yb yk yi yx za zs zl zt zg zr zm) sz)) 0 0 (va_A (w0_X6_isBooked G qy qyn qyt qyu qyf qyr qyb qyk qyi qyx yn yt yu yf yr yb yk yi yx za zs zl zt zg zr zm) sz) := by
  refine ms_i (cc := cX6_isBooked) (maxL := 2) (ret := some .boolean) (post := (fun (r : Int32) (u : Int32) => (r = 0 ∨ r = 1) ∧ Q r u)) (w1 := (fun (u : Int32) => (w0_X6_isBooked G qy qyn qyt qyu qyf qyr qyb qyk qyi qyx yn yt yu yf yr yb yk yi yx u zs zl zt zg zr zm))) (by decide) rfl (Nat.le_of_ble_eq_true rfl) ?_ sz
  intro p e s m below meth c A ls H locs hx hb hr hml hown hts hlocks hK hG hP hD hS hA hl
  have hown : s.vm.findClass RX6 = some m.cls := hown
  have hl : lv_has ls 2 [(0, .ref qy), (1, .int a1)] := hl
  unfold wn_X6_isBooked at hw
  refine lv_aload_n hx hb dX6_isBooked_0 rfl (lv_at hl 0 rfl) ?_
  refine lv_iload_n hx hb dX6_isBooked_1 rfl (lv_at hl 1 rfl) ?_
  refine kc_i (kr_V [] ⟨hx, hb, hml, hown, hts⟩ (cn_X6_noOne l G qy qyn qyt qyu qyf qyr qyb qyk qyi qyx yn yt yu yf yr yb yk yi yx za zs zl zt zg zr zm a1 hw H.size) (cwV 1 hts gX6_isBooked_X6_noOne rfl rfl rfl (by decide +kernel) ⟨Nat.le_of_ble_eq_true rfl, Nat.le_of_ble_eq_true rfl⟩) hK hG hP hD hS hA [0, 1, 2, 3, 4, 5, 6, 7, 8, 9] rfl rfl 6 0 rfl rfl rfl hl.1 rfl (Nat.le_of_ble_eq_true rfl) dX6_isBooked_2 ⟨Nat.le_of_ble_eq_true rfl, Nat.le_of_ble_eq_true rfl⟩) hP hD hS hA [0, 1, 2, 3, 4, 5, 6, 7, 8, 9] [] rfl rfl rfl (by decide) (fun r1 u H locs hw hP hD hS => ?_)
  obtain ⟨za_2, rfl⟩ : ∃ z, z = u := ⟨_, rfl⟩
  try dsimp only at hw
  have hP := hP.sub (ws' := (w0_X6_isBooked G qy qyn qyt qyu qyf qyr qyb qyk qyi qyx yn yt yu yf yr yb yk yi yx za_2 zs zl zt zg zr zm)) [0, 1, 2, 3, 4, 5, 6, 7, 8, 9] rfl
  have hD := hD.sub (ws' := (w0_X6_isBooked G qy qyn qyt qyu qyf qyr qyb qyk qyi qyx yn yt yu yf yr yb yk yi yx za_2 zs zl zt zg zr zm)) [0, 1, 2, 3, 4, 5, 6, 7, 8, 9] rfl rfl
  obtain ⟨hz_r1, hw⟩ := hw
  refine lv_if_ne (tgt := 20) hx hb dX6_isBooked_5 (by decide) (fun cd3 => ?_) (fun cd3 => ?_)
  · have hw := hw.1 cd3
    refine lv_iconst (v := 0) hx hb dX6_isBooked_20 (by decide) ?_
    exact fin_z (za_2) hx hb hr (nz (Or.inl rfl)) hlocks hK hS hP hD ⟨(Or.inl rfl), hw⟩ dX6_isBooked_21
  · have hw := hw.2 cd3
    refine lv_aload_n hx hb dX6_isBooked_8 rfl (lv_at hl 0 rfl) ?_
    refine lv_iload_n hx hb dX6_isBooked_9 rfl (lv_at hl 1 rfl) ?_
    refine kcR_i (kr_V [] ⟨hx, hb, hml, hown, hts⟩ (cn_X6_isIn l G qy qyn qyt qyu qyf qyr qyb qyk qyi qyx yn yt yu yf yr yb yk yi yx za_2 zs zl zt zg zr zm a1 hw H.size) (cwV 1 hts gX6_isBooked_X6_isIn rfl rfl rfl (by decide +kernel) ⟨Nat.le_of_ble_eq_true rfl, Nat.le_of_ble_eq_true rfl⟩) hK hG hP hD hS hA [0, 1, 2, 3, 4, 5, 6, 7, 8, 9] rfl rfl 6 0 rfl rfl rfl hl.1 rfl (Nat.le_of_ble_eq_true rfl) dX6_isBooked_10 ⟨Nat.le_of_ble_eq_true rfl, Nat.le_of_ble_eq_true rfl⟩) hP hD hS hA [0, 1, 2, 3, 4, 5, 6, 7, 8, 9] rfl (fun r4 u H locs hw hP hS => ?_)
    try dsimp only at hw
    obtain ⟨hz_r4, hw⟩ := hw
    refine lv_if_eq (tgt := 20) hx hb dX6_isBooked_13 (by decide) (fun cd5 => ?_) (fun cd5 => ?_)
    · have hw := hw.1 cd5
      refine lv_iconst (v := 0) hx hb dX6_isBooked_20 (by decide) ?_
      exact fin_z (za_2) hx hb hr (nz (Or.inl rfl)) hlocks hK hS hP hD ⟨(Or.inl rfl), hw⟩ dX6_isBooked_21
    · have hw := hw.2 cd5
      refine lv_iconst (v := 1) hx hb dX6_isBooked_16 (by decide) ?_
      refine lv_goto (tgt := 21) hx hb dX6_isBooked_17 (by decide) ?_
      exact fin_z (za_2) hx hb hr (nz (Or.inr rfl)) hlocks hK hS hP hD ⟨(Or.inr rfl), hw⟩ dX6_isBooked_21

abbrev w0_X6_pause (G : mG) (qy : Nat) (qyn : Nat) (qyt : Nat) (qyu : Nat) (qyf : Nat) (qyr : Nat) (qyb : Nat) (qyk : Nat) (qyi : Nat) (qyx : Nat) (yn : Nat → Int32) (yt : Nat → Int32) (yu : Nat → Int32) (yf : Nat → Int32) (yr : Nat → Int32) (yb : Nat → Int32) (yk : Nat → Int32) (yi : Nat → Int32) (yx : Nat → Int32) (za : Int32) (zs : Int32) (zl : Int32) (zt : Int32) (zg : Int32) (zr : Int32) (zm : Int32) : va_W := [(qy, .inr (6, [.int za, .ref qyn, .ref qyt, .ref qyu, .ref qyf, .ref qyr, .ref qyb, .int zs, .ref qyk, .ref qyi, .ref qyx, .int zl, .int zt, .int zg, .int zr, .int zm])), (qyn, .inl (gI G, (45, .inl yn))), (qyt, .inl (gI G, (45, .inl yt))), (qyu, .inl (gI G, (16384, .inl yu))), (qyf, .inl (gI G, (14, .inl yf))), (qyr, .inl (gI G, (14, .inl yr))), (qyb, .inl (gI G, (270, .inl yb))), (qyk, .inl (gI G, (90, .inl yk))), (qyi, .inl (gZ G, (2, .inl yi))), (qyx, .inl (gI G, (60, .inl yx)))]
set_option maxHeartbeats 8000000 in
set_option maxRecDepth 100000 in
theorem cn_X6_pause (l : Launch) (G : mG) (qy : Nat) (qyn : Nat) (qyt : Nat) (qyu : Nat) (qyf : Nat) (qyr : Nat) (qyb : Nat) (qyk : Nat) (qyi : Nat) (qyx : Nat) (yn : Nat → Int32) (yt : Nat → Int32) (yu : Nat → Int32) (yf : Nat → Int32) (yr : Nat → Int32) (yb : Nat → Int32) (yk : Nat → Int32) (yi : Nat → Int32) (yx : Nat → Int32) (za : Int32) (zs : Int32) (zl : Int32) (zt : Int32) (zg : Int32) (zr : Int32) (zm : Int32) {Q : Int32 → Int32 → Prop} (hw : wn_X6_pause yn za Q) (sz : Nat) :
    Met l yX6_pause wsX6_pause ({ frames := 1, cells := 0, slots := 0, locals := 21 } : Room) (va_Pc [.ref qy] (mPre G (w0_X6_pause G qy qyn qyt qyu qyf qyr qyb qyk qyi qyx yn yt yu yf yr yb yk yi yx za zs zl zt zg zr zm) sz)) (va_Qi (fun (r : Int32) (u : Int32) => Q r u) (mBk G (va_A (w0_X6_pause G qy qyn qyt qyu qyf qyr qyb qyk qyi qyx yn yt yu yf yr yb yk yi yx za zs zl zt zg zr zm) sz) (fun (u : Int32) => (w0_X6_pause G qy qyn qyt qyu qyf qyr qyb qyk qyi qyx yn yt yu yf yr yb yk yi yx u zs zl zt zg zr zm))) (va_A (w0_X6_pause G qy qyn qyt qyu qyf qyr qyb qyk qyi qyx yn yt yu yf yr yb yk yi yx za zs zl zt zg zr zm) sz)) 0 0 (va_A (w0_X6_pause G qy qyn qyt qyu qyf qyr qyb qyk qyi qyx yn yt yu yf yr yb yk yi yx za zs zl zt zg zr zm) sz) := by
  refine ms_i (cc := cX6_pause) (maxL := 1) (ret := some .int) (post := (fun (r : Int32) (u : Int32) => Q r u)) (w1 := (fun (u : Int32) => (w0_X6_pause G qy qyn qyt qyu qyf qyr qyb qyk qyi qyx yn yt yu yf yr yb yk yi yx u zs zl zt zg zr zm))) (by decide) rfl (Nat.le_of_ble_eq_true rfl) ?_ sz
  intro p e s m below meth c A ls H locs hx hb hr hml hown hts hlocks hK hG hP hD hS hA hl
  have hown : s.vm.findClass RX6 = some m.cls := hown
  have hl : lv_has ls 1 [(0, .ref qy)] := hl
  unfold wn_X6_pause at hw
  refine lv_aload_n hx hb dX6_pause_0 rfl (lv_at hl 0 rfl) ?_
  refine lv_bipush (v := 43) hx hb dX6_pause_1 (by decide) ?_
  refine kc_i (kr_V [] ⟨hx, hb, hml, hown, hts⟩ (cn_X6_tell l G qy qyn qyt qyu qyf qyr qyb qyk qyi qyx yn yt yu yf yr yb yk yi yx za zs zl zt zg zr zm (43 : Int32) hw H.size) (cwV 1 hts gX6_pause_X6_tell rfl rfl rfl (by decide +kernel) ⟨Nat.le_of_ble_eq_true rfl, Nat.le_of_ble_eq_true rfl⟩) hK hG hP hD hS hA [0, 1, 2, 3, 4, 5, 6, 7, 8, 9] rfl rfl 6 0 rfl rfl rfl hl.1 rfl (Nat.le_of_ble_eq_true rfl) dX6_pause_3 ⟨Nat.le_of_ble_eq_true rfl, Nat.le_of_ble_eq_true rfl⟩) hP hD hS hA [0, 1, 2, 3, 4, 5, 6, 7, 8, 9] [] rfl rfl rfl (by decide) (fun r1 u H locs hw hP hD hS => ?_)
  obtain ⟨za_2, rfl⟩ : ∃ z, z = u := ⟨_, rfl⟩
  try dsimp only at hw
  have hP := hP.sub (ws' := (w0_X6_pause G qy qyn qyt qyu qyf qyr qyb qyk qyi qyx yn yt yu yf yr yb yk yi yx za_2 zs zl zt zg zr zm)) [0, 1, 2, 3, 4, 5, 6, 7, 8, 9] rfl
  have hD := hD.sub (ws' := (w0_X6_pause G qy qyn qyt qyu qyf qyr qyb qyk qyi qyx yn yt yu yf yr yb yk yi yx za_2 zs zl zt zg zr zm)) [0, 1, 2, 3, 4, 5, 6, 7, 8, 9] rfl rfl
  exact fin_i (za_2) hx hb hr hlocks hK hS hP hD hw dX6_pause_6

abbrev w0_X6_booked (G : mG) (qy : Nat) (qyn : Nat) (qyt : Nat) (qyu : Nat) (qyf : Nat) (qyr : Nat) (qyb : Nat) (qyk : Nat) (qyi : Nat) (qyx : Nat) (yn : Nat → Int32) (yt : Nat → Int32) (yu : Nat → Int32) (yf : Nat → Int32) (yr : Nat → Int32) (yb : Nat → Int32) (yk : Nat → Int32) (yi : Nat → Int32) (yx : Nat → Int32) (za : Int32) (zs : Int32) (zl : Int32) (zt : Int32) (zg : Int32) (zr : Int32) (zm : Int32) : va_W := [(qy, .inr (6, [.int za, .ref qyn, .ref qyt, .ref qyu, .ref qyf, .ref qyr, .ref qyb, .int zs, .ref qyk, .ref qyi, .ref qyx, .int zl, .int zt, .int zg, .int zr, .int zm])), (qyn, .inl (gI G, (45, .inl yn))), (qyt, .inl (gI G, (45, .inl yt))), (qyu, .inl (gI G, (16384, .inl yu))), (qyf, .inl (gI G, (14, .inl yf))), (qyr, .inl (gI G, (14, .inl yr))), (qyb, .inl (gI G, (270, .inl yb))), (qyk, .inl (gI G, (90, .inl yk))), (qyi, .inl (gZ G, (2, .inl yi))), (qyx, .inl (gI G, (60, .inl yx)))]
set_option maxRecDepth 100000 in
theorem k_X6_booked_inX6 : ∀ w ∈ u_ws RX6 TX6 16, w ∈ wsX6_booked := by decide +kernel
set_option maxRecDepth 100000 in
theorem k_X6_booked_f38 : Cond.fieldLink RX6 38 "RehearsalRoomModel" "refusal" "I" ∈ wsX6_booked := by decide +kernel
set_option maxRecDepth 100000 in
theorem k_X6_booked_f7 : Cond.fieldLink RX6 7 "RehearsalRoomModel" "now" "[I" ∈ wsX6_booked := by decide +kernel
set_option maxHeartbeats 8000000 in
set_option maxRecDepth 100000 in
theorem cn_X6_booked (l : Launch) (G : mG) (qy : Nat) (qyn : Nat) (qyt : Nat) (qyu : Nat) (qyf : Nat) (qyr : Nat) (qyb : Nat) (qyk : Nat) (qyi : Nat) (qyx : Nat) (yn : Nat → Int32) (yt : Nat → Int32) (yu : Nat → Int32) (yf : Nat → Int32) (yr : Nat → Int32) (yb : Nat → Int32) (yk : Nat → Int32) (yi : Nat → Int32) (yx : Nat → Int32) (za : Int32) (zs : Int32) (zl : Int32) (zt : Int32) (zg : Int32) (zr : Int32) (zm : Int32) {Q : Int32 → Int32 → Prop} (hw : wn_X6_booked yn za Q) (sz : Nat) :
    Met l yX6_booked wsX6_booked ({ frames := 1, cells := 0, slots := 0, locals := 22 } : Room) (va_Pc [.ref qy] (mPre G (w0_X6_booked G qy qyn qyt qyu qyf qyr qyb qyk qyi qyx yn yt yu yf yr yb yk yi yx za zs zl zt zg zr zm) sz)) (va_Qi (fun (r : Int32) (u : Int32) => Q r u) (mBk G (va_A (w0_X6_booked G qy qyn qyt qyu qyf qyr qyb qyk qyi qyx yn yt yu yf yr yb yk yi yx za zs zl zt zg zr zm) sz) (fun (u : Int32) => (w0_X6_booked G qy qyn qyt qyu qyf qyr qyb qyk qyi qyx yn yt yu yf yr yb yk yi yx u zs zl zt zg zr zm))) (va_A (w0_X6_booked G qy qyn qyt qyu qyf qyr qyb qyk qyi qyx yn yt yu yf yr yb yk yi yx za zs zl zt zg zr zm) sz)) 0 0 (va_A (w0_X6_booked G qy qyn qyt qyu qyf qyr qyb qyk qyi qyx yn yt yu yf yr yb yk yi yx za zs zl zt zg zr zm) sz) := by
  refine ms_i (cc := cX6_booked) (maxL := 1) (ret := some .int) (post := (fun (r : Int32) (u : Int32) => Q r u)) (w1 := (fun (u : Int32) => (w0_X6_booked G qy qyn qyt qyu qyf qyr qyb qyk qyi qyx yn yt yu yf yr yb yk yi yx u zs zl zt zg zr zm))) (by decide) rfl (Nat.le_of_ble_eq_true rfl) ?_ sz
  intro p e s m below meth c A ls H locs hx hb hr hml hown hts hlocks hK hG hP hD hS hA hl
  have hown : s.vm.findClass RX6 = some m.cls := hown
  have hl : lv_has ls 1 [(0, .ref qy)] := hl
  unfold wn_X6_booked at hw
  refine lv_aload_n hx hb dX6_booked_0 rfl (lv_at hl 0 rfl) ?_
  refine lv_iconst (v := 0) hx hb dX6_booked_1 (by decide) ?_
  refine va_put (D := gD G) (ci := 6) (v := .int (0 : Int32)) (ty := .int) (C := RX6) (T := TX6) (N := 16) hx hb hts k_X6_booked_inX6 tyX6 tyX6_ok nmX6 hown hK hP hD hS 0 rfl rfl 0 (by decide) (hts _ k_X6_booked_f38) (fun _ h9 => h9) rfl (by decide +kernel) rfl rfl (Nat.le_of_ble_eq_true rfl) dX6_booked_2 (fun H locs hP hD hS => ?_)
  have hP : va_P (gD G) vwCl (w0_X6_booked G qy qyn qyt qyu qyf qyr qyb qyk qyi qyx yn yt yu yf yr yb yk yi yx (0 : Int32) zs zl zt zg zr zm) H := hP
  have hD : va_D A (w0_X6_booked G qy qyn qyt qyu qyf qyr qyb qyk qyi qyx yn yt yu yf yr yb yk yi yx (0 : Int32) zs zl zt zg zr zm) := hD
  refine lv_aload_n hx hb dX6_booked_5 rfl (lv_at hl 0 rfl) ?_
  refine va_get (D := gD G) (ci := 6) (v := .ref qyn) (C := RX6) (T := TX6) (N := 16) hx hb hts k_X6_booked_inX6 hown hK hP 0 rfl rfl 1 (by decide) (hts _ k_X6_booked_f7) (fun _ h9 => h9) rfl dX6_booked_6 ?_
  refine lv_bipush (v := 42) hx hb dX6_booked_9 (by decide) ?_
  obtain ⟨h1, hw⟩ := hw
  refine va_iald hx hb hK hP 1 0 rfl rfl h1 dX6_booked_11 ?_
  refine kcR_i (kr_S [] ⟨hx, hb, hml, hown, hts⟩ (cn_X6_bits l G (yn (42 : Int32).toNatClampNeg) hw H.size) (va_cwS 1 hts gX6_booked_X6_bits rfl rfl rfl (by decide +kernel) ⟨Nat.le_of_ble_eq_true rfl, Nat.le_of_ble_eq_true rfl⟩) hK hG hP hD hS hA [] rfl rfl rfl hl.1 rfl (Nat.le_of_ble_eq_true rfl) dX6_booked_12 ⟨Nat.le_of_ble_eq_true rfl, Nat.le_of_ble_eq_true rfl⟩) hP hD hS hA [] rfl (fun r2 u H locs hw hP hS => ?_)
  try dsimp only at hw
  exact fin_i ((0 : Int32)) hx hb hr hlocks hK hS hP hD hw dX6_booked_15

abbrev w0_X6_bookedFame (G : mG) (qy : Nat) (qyn : Nat) (qyt : Nat) (qyu : Nat) (qyf : Nat) (qyr : Nat) (qyb : Nat) (qyk : Nat) (qyi : Nat) (qyx : Nat) (yn : Nat → Int32) (yt : Nat → Int32) (yu : Nat → Int32) (yf : Nat → Int32) (yr : Nat → Int32) (yb : Nat → Int32) (yk : Nat → Int32) (yi : Nat → Int32) (yx : Nat → Int32) (za : Int32) (zs : Int32) (zl : Int32) (zt : Int32) (zg : Int32) (zr : Int32) (zm : Int32) : va_W := [(qy, .inr (6, [.int za, .ref qyn, .ref qyt, .ref qyu, .ref qyf, .ref qyr, .ref qyb, .int zs, .ref qyk, .ref qyi, .ref qyx, .int zl, .int zt, .int zg, .int zr, .int zm])), (qyn, .inl (gI G, (45, .inl yn))), (qyt, .inl (gI G, (45, .inl yt))), (qyu, .inl (gI G, (16384, .inl yu))), (qyf, .inl (gI G, (14, .inl yf))), (qyr, .inl (gI G, (14, .inl yr))), (qyb, .inl (gI G, (270, .inl yb))), (qyk, .inl (gI G, (90, .inl yk))), (qyi, .inl (gZ G, (2, .inl yi))), (qyx, .inl (gI G, (60, .inl yx)))]
set_option maxRecDepth 100000 in
theorem k_X6_bookedFame_inX6 : ∀ w ∈ u_ws RX6 TX6 16, w ∈ wsX6_bookedFame := by decide +kernel
set_option maxRecDepth 100000 in
theorem k_X6_bookedFame_f38 : Cond.fieldLink RX6 38 "RehearsalRoomModel" "refusal" "I" ∈ wsX6_bookedFame := by decide +kernel
set_option maxHeartbeats 8000000 in
set_option maxRecDepth 100000 in
theorem cn_X6_bookedFame (l : Launch) (G : mG) (qy : Nat) (qyn : Nat) (qyt : Nat) (qyu : Nat) (qyf : Nat) (qyr : Nat) (qyb : Nat) (qyk : Nat) (qyi : Nat) (qyx : Nat) (yn : Nat → Int32) (yt : Nat → Int32) (yu : Nat → Int32) (yf : Nat → Int32) (yr : Nat → Int32) (yb : Nat → Int32) (yk : Nat → Int32) (yi : Nat → Int32) (yx : Nat → Int32) (za : Int32) (zs : Int32) (zl : Int32) (zt : Int32) (zg : Int32) (zr : Int32) (zm : Int32) {Q : Int32 → Int32 → Prop} (hw : wn_X6_bookedFame yn za Q) (sz : Nat) :
    Met l yX6_bookedFame wsX6_bookedFame ({ frames := 1, cells := 0, slots := 0, locals := 22 } : Room) (va_Pc [.ref qy] (mPre G (w0_X6_bookedFame G qy qyn qyt qyu qyf qyr qyb qyk qyi qyx yn yt yu yf yr yb yk yi yx za zs zl zt zg zr zm) sz)) (va_Qi (fun (r : Int32) (u : Int32) => Q r u) (mBk G (va_A (w0_X6_bookedFame G qy qyn qyt qyu qyf qyr qyb qyk qyi qyx yn yt yu yf yr yb yk yi yx za zs zl zt zg zr zm) sz) (fun (u : Int32) => (w0_X6_bookedFame G qy qyn qyt qyu qyf qyr qyb qyk qyi qyx yn yt yu yf yr yb yk yi yx u zs zl zt zg zr zm))) (va_A (w0_X6_bookedFame G qy qyn qyt qyu qyf qyr qyb qyk qyi qyx yn yt yu yf yr yb yk yi yx za zs zl zt zg zr zm) sz)) 0 0 (va_A (w0_X6_bookedFame G qy qyn qyt qyu qyf qyr qyb qyk qyi qyx yn yt yu yf yr yb yk yi yx za zs zl zt zg zr zm) sz) := by
  refine ms_i (cc := cX6_bookedFame) (maxL := 1) (ret := some .int) (post := (fun (r : Int32) (u : Int32) => Q r u)) (w1 := (fun (u : Int32) => (w0_X6_bookedFame G qy qyn qyt qyu qyf qyr qyb qyk qyi qyx yn yt yu yf yr yb yk yi yx u zs zl zt zg zr zm))) (by decide) rfl (Nat.le_of_ble_eq_true rfl) ?_ sz
  intro p e s m below meth c A ls H locs hx hb hr hml hown hts hlocks hK hG hP hD hS hA hl
  have hown : s.vm.findClass RX6 = some m.cls := hown
  have hl : lv_has ls 1 [(0, .ref qy)] := hl
  unfold wn_X6_bookedFame at hw
  refine lv_aload_n hx hb dX6_bookedFame_0 rfl (lv_at hl 0 rfl) ?_
  refine lv_iconst (v := 0) hx hb dX6_bookedFame_1 (by decide) ?_
  refine va_put (D := gD G) (ci := 6) (v := .int (0 : Int32)) (ty := .int) (C := RX6) (T := TX6) (N := 16) hx hb hts k_X6_bookedFame_inX6 tyX6 tyX6_ok nmX6 hown hK hP hD hS 0 rfl rfl 0 (by decide) (hts _ k_X6_bookedFame_f38) (fun _ h9 => h9) rfl (by decide +kernel) rfl rfl (Nat.le_of_ble_eq_true rfl) dX6_bookedFame_2 (fun H locs hP hD hS => ?_)
  have hP : va_P (gD G) vwCl (w0_X6_bookedFame G qy qyn qyt qyu qyf qyr qyb qyk qyi qyx yn yt yu yf yr yb yk yi yx (0 : Int32) zs zl zt zg zr zm) H := hP
  have hD : va_D A (w0_X6_bookedFame G qy qyn qyt qyu qyf qyr qyb qyk qyi qyx yn yt yu yf yr yb yk yi yx (0 : Int32) zs zl zt zg zr zm) := hD
  refine lv_aload_n hx hb dX6_bookedFame_5 rfl (lv_at hl 0 rfl) ?_
  refine kcR_i (kr_V [] ⟨hx, hb, hml, hown, hts⟩ (cn_X6_fameOfBooked l G qy qyn qyt qyu qyf qyr qyb qyk qyi qyx yn yt yu yf yr yb yk yi yx (0 : Int32) zs zl zt zg zr zm hw H.size) (cwV 0 hts gX6_bookedFame_X6_fameOfBooked rfl rfl rfl (by decide +kernel) ⟨Nat.le_of_ble_eq_true rfl, Nat.le_of_ble_eq_true rfl⟩) hK hG hP hD hS hA [0, 1, 2, 3, 4, 5, 6, 7, 8, 9] rfl rfl 6 0 rfl rfl rfl hl.1 rfl (Nat.le_of_ble_eq_true rfl) dX6_bookedFame_6 ⟨Nat.le_of_ble_eq_true rfl, Nat.le_of_ble_eq_true rfl⟩) hP hD hS hA [0, 1, 2, 3, 4, 5, 6, 7, 8, 9] rfl (fun r1 u H locs hw hP hS => ?_)
  try dsimp only at hw
  exact fin_i ((0 : Int32)) hx hb hr hlocks hK hS hP hD hw dX6_bookedFame_9

abbrev w0_X6_areInConflict (G : mG) (qy : Nat) (qyn : Nat) (qyt : Nat) (qyu : Nat) (qyf : Nat) (qyr : Nat) (qyb : Nat) (qyk : Nat) (qyi : Nat) (qyx : Nat) (yn : Nat → Int32) (yt : Nat → Int32) (yu : Nat → Int32) (yf : Nat → Int32) (yr : Nat → Int32) (yb : Nat → Int32) (yk : Nat → Int32) (yi : Nat → Int32) (yx : Nat → Int32) (za : Int32) (zs : Int32) (zl : Int32) (zt : Int32) (zg : Int32) (zr : Int32) (zm : Int32) : va_W := [(qy, .inr (6, [.int za, .ref qyn, .ref qyt, .ref qyu, .ref qyf, .ref qyr, .ref qyb, .int zs, .ref qyk, .ref qyi, .ref qyx, .int zl, .int zt, .int zg, .int zr, .int zm])), (qyn, .inl (gI G, (45, .inl yn))), (qyt, .inl (gI G, (45, .inl yt))), (qyu, .inl (gI G, (16384, .inl yu))), (qyf, .inl (gI G, (14, .inl yf))), (qyr, .inl (gI G, (14, .inl yr))), (qyb, .inl (gI G, (270, .inl yb))), (qyk, .inl (gI G, (90, .inl yk))), (qyi, .inl (gZ G, (2, .inl yi))), (qyx, .inl (gI G, (60, .inl yx)))]
set_option maxRecDepth 100000 in
theorem k_X6_areInConflict_inX6 : ∀ w ∈ u_ws RX6 TX6 16, w ∈ wsX6_areInConflict := by decide +kernel
set_option maxRecDepth 100000 in
theorem k_X6_areInConflict_f7 : Cond.fieldLink RX6 7 "RehearsalRoomModel" "now" "[I" ∈ wsX6_areInConflict := by decide +kernel
set_option maxHeartbeats 8000000 in
set_option maxRecDepth 100000 in
theorem cn_X6_areInConflict (l : Launch) (G : mG) (qy : Nat) (qyn : Nat) (qyt : Nat) (qyu : Nat) (qyf : Nat) (qyr : Nat) (qyb : Nat) (qyk : Nat) (qyi : Nat) (qyx : Nat) (yn : Nat → Int32) (yt : Nat → Int32) (yu : Nat → Int32) (yf : Nat → Int32) (yr : Nat → Int32) (yb : Nat → Int32) (yk : Nat → Int32) (yi : Nat → Int32) (yx : Nat → Int32) (za : Int32) (zs : Int32) (zl : Int32) (zt : Int32) (zg : Int32) (zr : Int32) (zm : Int32) (a1 : Int32) (a2 : Int32) {Q : Int32 → Int32 → Prop} (hw : wn_X6_areInConflict yn za a1 a2 Q) (sz : Nat) :
    Met l yX6_areInConflict wsX6_areInConflict ({ frames := 2, cells := 0, slots := 0, locals := 46 } : Room) (va_Pc [.ref qy, .int a1, .int a2] (mPre G (w0_X6_areInConflict G qy qyn qyt qyu qyf qyr qyb qyk qyi qyx yn yt yu yf yr yb yk yi yx za zs zl zt zg zr zm) sz)) (va_Qi (fun (r : Int32) (u : Int32) => (r = 0 ∨ r = 1) ∧ Q r u) (mBk G (va_A (w0_X6_areInConflict G qy qyn qyt qyu qyf qyr qyb qyk qyi qyx yn yt yu yf yr yb yk yi yx za zs zl zt zg zr zm) sz) (fun (u : Int32) => (w0_X6_areInConflict G qy qyn qyt qyu qyf qyr qyb qyk qyi qyx yn yt yu yf yr yb yk yi yx u zs zl zt zg zr zm))) (va_A (w0_X6_areInConflict G qy qyn qyt qyu qyf qyr qyb qyk qyi qyx yn yt yu yf yr yb yk yi yx za zs zl zt zg zr zm) sz)) 0 0 (va_A (w0_X6_areInConflict G qy qyn qyt qyu qyf qyr qyb qyk qyi qyx yn yt yu yf yr yb yk yi yx za zs zl zt zg zr zm) sz) := by
  refine ms_i (cc := cX6_areInConflict) (maxL := 3) (ret := some .boolean) (post := (fun (r : Int32) (u : Int32) => (r = 0 ∨ r = 1) ∧ Q r u)) (w1 := (fun (u : Int32) => (w0_X6_areInConflict G qy qyn qyt qyu qyf qyr qyb qyk qyi qyx yn yt yu yf yr yb yk yi yx u zs zl zt zg zr zm))) (by decide) rfl (Nat.le_of_ble_eq_true rfl) ?_ sz
  intro p e s m below meth c A ls H locs hx hb hr hml hown hts hlocks hK hG hP hD hS hA hl
  have hown : s.vm.findClass RX6 = some m.cls := hown
  have hl : lv_has ls 3 [(0, .ref qy), (1, .int a1), (2, .int a2)] := hl
  have J22 : ∀ (za : Int32) (x1 : Int32) (x2 : Int32) (y1 : Int32) (H : Heap) (locs : List Loc) (ls : Array Slot), (y1 = 0 ∨ y1 = 1) → va_P (gD G) vwCl (w0_X6_areInConflict G qy qyn qyt qyu qyf qyr qyb qyk qyi qyx yn yt yu yf yr yb yk yi yx za zs zl zt zg zr zm) H → va_D A (w0_X6_areInConflict G qy qyn qyt qyu qyf qyr qyb qyk qyi qyx yn yt yu yf yr yb yk yi yx za zs zl zt zg zr zm) → va_S A s.heap H locs → lv_has ls 3 [(0, .ref qy), (1, .int x1), (2, .int x2)] → wj_n_X6_areInConflict_22 yn Q za x1 x2 y1 → W p l e ({ frames := 2, cells := 0, slots := 0, locals := 46 } : Room) s m ([.ref qy, .int a1, .int a2] : List Value).toArray below meth c H locs 0 0 (MQ below (va_Qi (fun (r : Int32) (u : Int32) => (r = 0 ∨ r = 1) ∧ Q r u) (mBk G A (fun (u : Int32) => (w0_X6_areInConflict G qy qyn qyt qyu qyf qyr qyb qyk qyi qyx yn yt yu yf yr yb yk yi yx u zs zl zt zg zr zm))) A) ([.ref qy, .int a1, .int a2] : List Value).toArray s 0 0 A) (F0 m 22 ls [.int y1, .ref qy]) := by
    intro za x1 x2 y1 H locs ls hz_y1 hP hD hS hl hw
    unfold wj_n_X6_areInConflict_22 at hw
    refine kc_i (kr_V [] ⟨hx, hb, hml, hown, hts⟩ (cn_X6_refused l G qy qyn qyt qyu qyf qyr qyb qyk qyi qyx yn yt yu yf yr yb yk yi yx za zs zl zt zg zr zm y1 hw H.size) (cwV 1 hts gX6_areInConflict_X6_refused rfl rfl rfl (by decide +kernel) ⟨Nat.le_of_ble_eq_true rfl, Nat.le_of_ble_eq_true rfl⟩) hK hG hP hD hS hA [0, 1, 2, 3, 4, 5, 6, 7, 8, 9] rfl rfl 6 0 rfl rfl rfl hl.1 rfl (Nat.le_of_ble_eq_true rfl) dX6_areInConflict_22 ⟨Nat.le_of_ble_eq_true rfl, Nat.le_of_ble_eq_true rfl⟩) hP hD hS hA [0, 1, 2, 3, 4, 5, 6, 7, 8, 9] [] rfl rfl rfl (by decide) (fun r3 u H locs hw hP hD hS => ?_)
    obtain ⟨za_4, rfl⟩ : ∃ z, z = u := ⟨_, rfl⟩
    try dsimp only at hw
    have hP := hP.sub (ws' := (w0_X6_areInConflict G qy qyn qyt qyu qyf qyr qyb qyk qyi qyx yn yt yu yf yr yb yk yi yx za_4 zs zl zt zg zr zm)) [0, 1, 2, 3, 4, 5, 6, 7, 8, 9] rfl
    have hD := hD.sub (ws' := (w0_X6_areInConflict G qy qyn qyt qyu qyf qyr qyb qyk qyi qyx yn yt yu yf yr yb yk yi yx za_4 zs zl zt zg zr zm)) [0, 1, 2, 3, 4, 5, 6, 7, 8, 9] rfl rfl
    obtain ⟨hz_r3, hw⟩ := hw
    refine lv_if_ne (tgt := 44) hx hb dX6_areInConflict_25 (by decide) (fun cd5 => ?_) (fun cd5 => ?_)
    · have hw := hw.1 cd5
      refine lv_iconst (v := 0) hx hb dX6_areInConflict_44 (by decide) ?_
      exact fin_z (za_4) hx hb hr (nz (Or.inl rfl)) hlocks hK hS hP hD ⟨(Or.inl rfl), hw⟩ dX6_areInConflict_45
    · have hw := hw.2 cd5
      refine lv_aload_n hx hb dX6_areInConflict_28 rfl (lv_at hl 0 rfl) ?_
      refine va_get (D := gD G) (ci := 6) (v := .ref qyn) (C := RX6) (T := TX6) (N := 16) hx hb hts k_X6_areInConflict_inX6 hown hK hP 0 rfl rfl 1 (by decide) (hts _ k_X6_areInConflict_f7) (fun _ h9 => h9) rfl dX6_areInConflict_29 ?_
      refine lv_iload_n hx hb dX6_areInConflict_32 rfl (lv_at hl 1 rfl) ?_
      refine lv_iload_n hx hb dX6_areInConflict_33 rfl (lv_at hl 2 rfl) ?_
      refine kcR_i (kr_S [] ⟨hx, hb, hml, hown, hts⟩ (cn_X6_clash l G qyn yn x1 x2 hw H.size) (va_cwS 3 hts gX6_areInConflict_X6_clash rfl rfl rfl (by decide +kernel) ⟨Nat.le_of_ble_eq_true rfl, Nat.le_of_ble_eq_true rfl⟩) hK hG hP hD hS hA [1] rfl rfl rfl hl.1 rfl (Nat.le_of_ble_eq_true rfl) dX6_areInConflict_34 ⟨Nat.le_of_ble_eq_true rfl, Nat.le_of_ble_eq_true rfl⟩) hP hD hS hA [1] rfl (fun r6 u H locs hw hP hS => ?_)
      try dsimp only at hw
      obtain ⟨hz_r6, hw⟩ := hw
      refine lv_if_eq (tgt := 44) hx hb dX6_areInConflict_37 (by decide) (fun cd7 => ?_) (fun cd7 => ?_)
      · have hw := hw.1 cd7
        refine lv_iconst (v := 0) hx hb dX6_areInConflict_44 (by decide) ?_
        exact fin_z (za_4) hx hb hr (nz (Or.inl rfl)) hlocks hK hS hP hD ⟨(Or.inl rfl), hw⟩ dX6_areInConflict_45
      · have hw := hw.2 cd7
        refine lv_iconst (v := 1) hx hb dX6_areInConflict_40 (by decide) ?_
        refine lv_goto (tgt := 45) hx hb dX6_areInConflict_41 (by decide) ?_
        exact fin_z (za_4) hx hb hr (nz (Or.inr rfl)) hlocks hK hS hP hD ⟨(Or.inr rfl), hw⟩ dX6_areInConflict_45
  have J21 : ∀ (za : Int32) (x1 : Int32) (x2 : Int32) (H : Heap) (locs : List Loc) (ls : Array Slot), va_P (gD G) vwCl (w0_X6_areInConflict G qy qyn qyt qyu qyf qyr qyb qyk qyi qyx yn yt yu yf yr yb yk yi yx za zs zl zt zg zr zm) H → va_D A (w0_X6_areInConflict G qy qyn qyt qyu qyf qyr qyb qyk qyi qyx yn yt yu yf yr yb yk yi yx za zs zl zt zg zr zm) → va_S A s.heap H locs → lv_has ls 3 [(0, .ref qy), (1, .int x1), (2, .int x2)] → wj_n_X6_areInConflict_21 yn Q za x1 x2 → W p l e ({ frames := 2, cells := 0, slots := 0, locals := 46 } : Room) s m ([.ref qy, .int a1, .int a2] : List Value).toArray below meth c H locs 0 0 (MQ below (va_Qi (fun (r : Int32) (u : Int32) => (r = 0 ∨ r = 1) ∧ Q r u) (mBk G A (fun (u : Int32) => (w0_X6_areInConflict G qy qyn qyt qyu qyf qyr qyb qyk qyi qyx yn yt yu yf yr yb yk yi yx u zs zl zt zg zr zm))) A) ([.ref qy, .int a1, .int a2] : List Value).toArray s 0 0 A) (F0 m 21 ls [.ref qy]) := by
    intro za x1 x2 H locs ls hP hD hS hl hw
    unfold wj_n_X6_areInConflict_21 at hw
    refine lv_iconst (v := 1) hx hb dX6_areInConflict_21 (by decide) ?_
    exact J22 za x1 x2 (1 : Int32) _ _ _ (Or.inr rfl) hP hD hS hl hw
  unfold wn_X6_areInConflict at hw
  refine lv_aload_n hx hb dX6_areInConflict_0 rfl (lv_at hl 0 rfl) ?_
  refine lv_aload_n hx hb dX6_areInConflict_1 rfl (lv_at hl 0 rfl) ?_
  refine lv_iload_n hx hb dX6_areInConflict_2 rfl (lv_at hl 1 rfl) ?_
  refine kcR_i (kr_V [.ref qy] ⟨hx, hb, hml, hown, hts⟩ (cn_X6_isThere l G qy qyn qyt qyu qyf qyr qyb qyk qyi qyx yn yt yu yf yr yb yk yi yx za zs zl zt zg zr zm a1 hw H.size) (cwV 1 hts gX6_areInConflict_X6_isThere rfl rfl rfl (by decide +kernel) ⟨Nat.le_of_ble_eq_true rfl, Nat.le_of_ble_eq_true rfl⟩) hK hG hP hD hS hA [0, 1, 2, 3, 4, 5, 6, 7, 8, 9] rfl rfl 6 0 rfl rfl rfl hl.1 rfl (Nat.le_of_ble_eq_true rfl) dX6_areInConflict_3 ⟨Nat.le_of_ble_eq_true rfl, Nat.le_of_ble_eq_true rfl⟩) hP hD hS hA [0, 1, 2, 3, 4, 5, 6, 7, 8, 9] rfl (fun r1 u H locs hw hP hS => ?_)
  try dsimp only at hw
  obtain ⟨hz_r1, hw⟩ := hw
  refine lv_if_eq (tgt := 21) hx hb dX6_areInConflict_6 (by decide) (fun cd2 => ?_) (fun cd2 => ?_)
  · have hw := hw.1 cd2
    exact J21 za a1 a2 _ _ _ hP hD hS hl hw
  · have hw := hw.2 cd2
    refine lv_aload_n hx hb dX6_areInConflict_9 rfl (lv_at hl 0 rfl) ?_
    refine lv_iload_n hx hb dX6_areInConflict_10 rfl (lv_at hl 2 rfl) ?_
    refine kcR_i (kr_V [.ref qy] ⟨hx, hb, hml, hown, hts⟩ (cn_X6_isThere l G qy qyn qyt qyu qyf qyr qyb qyk qyi qyx yn yt yu yf yr yb yk yi yx za zs zl zt zg zr zm a2 hw H.size) (cwV 1 hts gX6_areInConflict_X6_isThere rfl rfl rfl (by decide +kernel) ⟨Nat.le_of_ble_eq_true rfl, Nat.le_of_ble_eq_true rfl⟩) hK hG hP hD hS hA [0, 1, 2, 3, 4, 5, 6, 7, 8, 9] rfl rfl 6 0 rfl rfl rfl hl.1 rfl (Nat.le_of_ble_eq_true rfl) dX6_areInConflict_11 ⟨Nat.le_of_ble_eq_true rfl, Nat.le_of_ble_eq_true rfl⟩) hP hD hS hA [0, 1, 2, 3, 4, 5, 6, 7, 8, 9] rfl (fun r8 u H locs hw hP hS => ?_)
    try dsimp only at hw
    obtain ⟨hz_r8, hw⟩ := hw
    refine lv_if_eq (tgt := 21) hx hb dX6_areInConflict_14 (by decide) (fun cd9 => ?_) (fun cd9 => ?_)
    · have hw := hw.1 cd9
      exact J21 za a1 a2 _ _ _ hP hD hS hl hw
    · have hw := hw.2 cd9
      refine lv_iconst (v := 0) hx hb dX6_areInConflict_17 (by decide) ?_
      refine lv_goto (tgt := 22) hx hb dX6_areInConflict_18 (by decide) ?_
      exact J22 za a1 a2 (0 : Int32) _ _ _ (Or.inl rfl) hP hD hS hl hw

abbrev w0_X6_conflictsOf (G : mG) (qy : Nat) (qyn : Nat) (qyt : Nat) (qyu : Nat) (qyf : Nat) (qyr : Nat) (qyb : Nat) (qyk : Nat) (qyi : Nat) (qyx : Nat) (yn : Nat → Int32) (yt : Nat → Int32) (yu : Nat → Int32) (yf : Nat → Int32) (yr : Nat → Int32) (yb : Nat → Int32) (yk : Nat → Int32) (yi : Nat → Int32) (yx : Nat → Int32) (za : Int32) (zs : Int32) (zl : Int32) (zt : Int32) (zg : Int32) (zr : Int32) (zm : Int32) : va_W := [(qy, .inr (6, [.int za, .ref qyn, .ref qyt, .ref qyu, .ref qyf, .ref qyr, .ref qyb, .int zs, .ref qyk, .ref qyi, .ref qyx, .int zl, .int zt, .int zg, .int zr, .int zm])), (qyn, .inl (gI G, (45, .inl yn))), (qyt, .inl (gI G, (45, .inl yt))), (qyu, .inl (gI G, (16384, .inl yu))), (qyf, .inl (gI G, (14, .inl yf))), (qyr, .inl (gI G, (14, .inl yr))), (qyb, .inl (gI G, (270, .inl yb))), (qyk, .inl (gI G, (90, .inl yk))), (qyi, .inl (gZ G, (2, .inl yi))), (qyx, .inl (gI G, (60, .inl yx)))]
set_option maxRecDepth 100000 in
theorem k_X6_conflictsOf_inX6 : ∀ w ∈ u_ws RX6 TX6 16, w ∈ wsX6_conflictsOf := by decide +kernel
set_option maxRecDepth 100000 in
theorem k_X6_conflictsOf_f7 : Cond.fieldLink RX6 7 "RehearsalRoomModel" "now" "[I" ∈ wsX6_conflictsOf := by decide +kernel
set_option maxHeartbeats 8000000 in
set_option maxRecDepth 100000 in
theorem cn_X6_conflictsOf (l : Launch) (G : mG) (qy : Nat) (qyn : Nat) (qyt : Nat) (qyu : Nat) (qyf : Nat) (qyr : Nat) (qyb : Nat) (qyk : Nat) (qyi : Nat) (qyx : Nat) (yn : Nat → Int32) (yt : Nat → Int32) (yu : Nat → Int32) (yf : Nat → Int32) (yr : Nat → Int32) (yb : Nat → Int32) (yk : Nat → Int32) (yi : Nat → Int32) (yx : Nat → Int32) (za : Int32) (zs : Int32) (zl : Int32) (zt : Int32) (zg : Int32) (zr : Int32) (zm : Int32) (a1 : Int32) {Q : Int32 → Int32 → Prop} (hw : wn_X6_conflictsOf yn za a1 Q) (sz : Nat) :
    Met l yX6_conflictsOf wsX6_conflictsOf ({ frames := 3, cells := 0, slots := 0, locals := 67 } : Room) (va_Pc [.ref qy, .int a1] (mPre G (w0_X6_conflictsOf G qy qyn qyt qyu qyf qyr qyb qyk qyi qyx yn yt yu yf yr yb yk yi yx za zs zl zt zg zr zm) sz)) (va_Qi (fun (r : Int32) (u : Int32) => Q r u) (mBk G (va_A (w0_X6_conflictsOf G qy qyn qyt qyu qyf qyr qyb qyk qyi qyx yn yt yu yf yr yb yk yi yx za zs zl zt zg zr zm) sz) (fun (u : Int32) => (w0_X6_conflictsOf G qy qyn qyt qyu qyf qyr qyb qyk qyi qyx yn yt yu yf yr yb yk yi yx u zs zl zt zg zr zm))) (va_A (w0_X6_conflictsOf G qy qyn qyt qyu qyf qyr qyb qyk qyi qyx yn yt yu yf yr yb yk yi yx za zs zl zt zg zr zm) sz)) 0 0 (va_A (w0_X6_conflictsOf G qy qyn qyt qyu qyf qyr qyb qyk qyi qyx yn yt yu yf yr yb yk yi yx za zs zl zt zg zr zm) sz) := by
  refine ms_i (cc := cX6_conflictsOf) (maxL := 2) (ret := some .int) (post := (fun (r : Int32) (u : Int32) => Q r u)) (w1 := (fun (u : Int32) => (w0_X6_conflictsOf G qy qyn qyt qyu qyf qyr qyb qyk qyi qyx yn yt yu yf yr yb yk yi yx u zs zl zt zg zr zm))) (by decide) rfl (Nat.le_of_ble_eq_true rfl) ?_ sz
  intro p e s m below meth c A ls H locs hx hb hr hml hown hts hlocks hK hG hP hD hS hA hl
  have hown : s.vm.findClass RX6 = some m.cls := hown
  have hl : lv_has ls 2 [(0, .ref qy), (1, .int a1)] := hl
  unfold wn_X6_conflictsOf at hw
  refine lv_aload_n hx hb dX6_conflictsOf_0 rfl (lv_at hl 0 rfl) ?_
  refine lv_iload_n hx hb dX6_conflictsOf_1 rfl (lv_at hl 1 rfl) ?_
  refine kc_i (kr_V [] ⟨hx, hb, hml, hown, hts⟩ (cn_X6_noOne l G qy qyn qyt qyu qyf qyr qyb qyk qyi qyx yn yt yu yf yr yb yk yi yx za zs zl zt zg zr zm a1 hw H.size) (cwV 1 hts gX6_conflictsOf_X6_noOne rfl rfl rfl (by decide +kernel) ⟨Nat.le_of_ble_eq_true rfl, Nat.le_of_ble_eq_true rfl⟩) hK hG hP hD hS hA [0, 1, 2, 3, 4, 5, 6, 7, 8, 9] rfl rfl 6 0 rfl rfl rfl hl.1 rfl (Nat.le_of_ble_eq_true rfl) dX6_conflictsOf_2 ⟨Nat.le_of_ble_eq_true rfl, Nat.le_of_ble_eq_true rfl⟩) hP hD hS hA [0, 1, 2, 3, 4, 5, 6, 7, 8, 9] [] rfl rfl rfl (by decide) (fun r1 u H locs hw hP hD hS => ?_)
  obtain ⟨za_2, rfl⟩ : ∃ z, z = u := ⟨_, rfl⟩
  try dsimp only at hw
  have hP := hP.sub (ws' := (w0_X6_conflictsOf G qy qyn qyt qyu qyf qyr qyb qyk qyi qyx yn yt yu yf yr yb yk yi yx za_2 zs zl zt zg zr zm)) [0, 1, 2, 3, 4, 5, 6, 7, 8, 9] rfl
  have hD := hD.sub (ws' := (w0_X6_conflictsOf G qy qyn qyt qyu qyf qyr qyb qyk qyi qyx yn yt yu yf yr yb yk yi yx za_2 zs zl zt zg zr zm)) [0, 1, 2, 3, 4, 5, 6, 7, 8, 9] rfl rfl
  obtain ⟨hz_r1, hw⟩ := hw
  refine lv_if_eq (tgt := 12) hx hb dX6_conflictsOf_5 (by decide) (fun cd3 => ?_) (fun cd3 => ?_)
  · have hw := hw.1 cd3
    refine lv_aload_n hx hb dX6_conflictsOf_12 rfl (lv_at hl 0 rfl) ?_
    refine va_get (D := gD G) (ci := 6) (v := .ref qyn) (C := RX6) (T := TX6) (N := 16) hx hb hts k_X6_conflictsOf_inX6 hown hK hP 0 rfl rfl 1 (by decide) (hts _ k_X6_conflictsOf_f7) (fun _ h9 => h9) rfl dX6_conflictsOf_13 ?_
    refine lv_iload_n hx hb dX6_conflictsOf_16 rfl (lv_at hl 1 rfl) ?_
    refine kcR_i (kr_S [] ⟨hx, hb, hml, hown, hts⟩ (cn_X6_foesOf l G qyn yn a1 hw H.size) (va_cwS 2 hts gX6_conflictsOf_X6_foesOf rfl rfl rfl (by decide +kernel) ⟨Nat.le_of_ble_eq_true rfl, Nat.le_of_ble_eq_true rfl⟩) hK hG hP hD hS hA [1] rfl rfl rfl hl.1 rfl (Nat.le_of_ble_eq_true rfl) dX6_conflictsOf_17 ⟨Nat.le_of_ble_eq_true rfl, Nat.le_of_ble_eq_true rfl⟩) hP hD hS hA [1] rfl (fun r4 u H locs hw hP hS => ?_)
    try dsimp only at hw
    refine kcR_i (kr_S [] ⟨hx, hb, hml, hown, hts⟩ (cn_X6_bits l G r4 hw H.size) (va_cwS 1 hts gX6_conflictsOf_X6_bits rfl rfl rfl (by decide +kernel) ⟨Nat.le_of_ble_eq_true rfl, Nat.le_of_ble_eq_true rfl⟩) hK hG hP hD hS hA [] rfl rfl rfl hl.1 rfl (Nat.le_of_ble_eq_true rfl) dX6_conflictsOf_20 ⟨Nat.le_of_ble_eq_true rfl, Nat.le_of_ble_eq_true rfl⟩) hP hD hS hA [] rfl (fun r5 u H locs hw hP hS => ?_)
    try dsimp only at hw
    exact fin_i (za_2) hx hb hr hlocks hK hS hP hD hw dX6_conflictsOf_23
  · have hw := hw.2 cd3
    refine lv_iconst (v := 0) hx hb dX6_conflictsOf_8 (by decide) ?_
    refine lv_goto (tgt := 23) hx hb dX6_conflictsOf_9 (by decide) ?_
    exact fin_i (za_2) hx hb hr hlocks hK hS hP hD hw dX6_conflictsOf_23

abbrev w0_X6_conflictsByPairs (G : mG) (qy : Nat) (qyn : Nat) (qyt : Nat) (qyu : Nat) (qyf : Nat) (qyr : Nat) (qyb : Nat) (qyk : Nat) (qyi : Nat) (qyx : Nat) (yn : Nat → Int32) (yt : Nat → Int32) (yu : Nat → Int32) (yf : Nat → Int32) (yr : Nat → Int32) (yb : Nat → Int32) (yk : Nat → Int32) (yi : Nat → Int32) (yx : Nat → Int32) (za : Int32) (zs : Int32) (zl : Int32) (zt : Int32) (zg : Int32) (zr : Int32) (zm : Int32) : va_W := [(qy, .inr (6, [.int za, .ref qyn, .ref qyt, .ref qyu, .ref qyf, .ref qyr, .ref qyb, .int zs, .ref qyk, .ref qyi, .ref qyx, .int zl, .int zt, .int zg, .int zr, .int zm])), (qyn, .inl (gI G, (45, .inl yn))), (qyt, .inl (gI G, (45, .inl yt))), (qyu, .inl (gI G, (16384, .inl yu))), (qyf, .inl (gI G, (14, .inl yf))), (qyr, .inl (gI G, (14, .inl yr))), (qyb, .inl (gI G, (270, .inl yb))), (qyk, .inl (gI G, (90, .inl yk))), (qyi, .inl (gZ G, (2, .inl yi))), (qyx, .inl (gI G, (60, .inl yx)))]
set_option maxRecDepth 100000 in
theorem k_X6_conflictsByPairs_inX6 : ∀ w ∈ u_ws RX6 TX6 16, w ∈ wsX6_conflictsByPairs := by decide +kernel
set_option maxRecDepth 100000 in
theorem k_X6_conflictsByPairs_f38 : Cond.fieldLink RX6 38 "RehearsalRoomModel" "refusal" "I" ∈ wsX6_conflictsByPairs := by decide +kernel
set_option maxHeartbeats 8000000 in
set_option maxRecDepth 100000 in
theorem cn_X6_conflictsByPairs (l : Launch) (G : mG) (qy : Nat) (qyn : Nat) (qyt : Nat) (qyu : Nat) (qyf : Nat) (qyr : Nat) (qyb : Nat) (qyk : Nat) (qyi : Nat) (qyx : Nat) (yn : Nat → Int32) (yt : Nat → Int32) (yu : Nat → Int32) (yf : Nat → Int32) (yr : Nat → Int32) (yb : Nat → Int32) (yk : Nat → Int32) (yi : Nat → Int32) (yx : Nat → Int32) (za : Int32) (zs : Int32) (zl : Int32) (zt : Int32) (zg : Int32) (zr : Int32) (zm : Int32) {Q : Int32 → Int32 → Prop} (hw : wn_X6_conflictsByPairs yn za Q) (sz : Nat) :
    Met l yX6_conflictsByPairs wsX6_conflictsByPairs ({ frames := 3, cells := 0, slots := 0, locals := 69 } : Room) (va_Pc [.ref qy] (mPre G (w0_X6_conflictsByPairs G qy qyn qyt qyu qyf qyr qyb qyk qyi qyx yn yt yu yf yr yb yk yi yx za zs zl zt zg zr zm) sz)) (va_Qi (fun (r : Int32) (u : Int32) => Q r u) (mBk G (va_A (w0_X6_conflictsByPairs G qy qyn qyt qyu qyf qyr qyb qyk qyi qyx yn yt yu yf yr yb yk yi yx za zs zl zt zg zr zm) sz) (fun (u : Int32) => (w0_X6_conflictsByPairs G qy qyn qyt qyu qyf qyr qyb qyk qyi qyx yn yt yu yf yr yb yk yi yx u zs zl zt zg zr zm))) (va_A (w0_X6_conflictsByPairs G qy qyn qyt qyu qyf qyr qyb qyk qyi qyx yn yt yu yf yr yb yk yi yx za zs zl zt zg zr zm) sz)) 0 0 (va_A (w0_X6_conflictsByPairs G qy qyn qyt qyu qyf qyr qyb qyk qyi qyx yn yt yu yf yr yb yk yi yx za zs zl zt zg zr zm) sz) := by
  refine ms_i (cc := cX6_conflictsByPairs) (maxL := 1) (ret := some .int) (post := (fun (r : Int32) (u : Int32) => Q r u)) (w1 := (fun (u : Int32) => (w0_X6_conflictsByPairs G qy qyn qyt qyu qyf qyr qyb qyk qyi qyx yn yt yu yf yr yb yk yi yx u zs zl zt zg zr zm))) (by decide) rfl (Nat.le_of_ble_eq_true rfl) ?_ sz
  intro p e s m below meth c A ls H locs hx hb hr hml hown hts hlocks hK hG hP hD hS hA hl
  have hown : s.vm.findClass RX6 = some m.cls := hown
  have hl : lv_has ls 1 [(0, .ref qy)] := hl
  unfold wn_X6_conflictsByPairs at hw
  refine lv_aload_n hx hb dX6_conflictsByPairs_0 rfl (lv_at hl 0 rfl) ?_
  refine lv_iconst (v := 0) hx hb dX6_conflictsByPairs_1 (by decide) ?_
  refine va_put (D := gD G) (ci := 6) (v := .int (0 : Int32)) (ty := .int) (C := RX6) (T := TX6) (N := 16) hx hb hts k_X6_conflictsByPairs_inX6 tyX6 tyX6_ok nmX6 hown hK hP hD hS 0 rfl rfl 0 (by decide) (hts _ k_X6_conflictsByPairs_f38) (fun _ h9 => h9) rfl (by decide +kernel) rfl rfl (Nat.le_of_ble_eq_true rfl) dX6_conflictsByPairs_2 (fun H locs hP hD hS => ?_)
  have hP : va_P (gD G) vwCl (w0_X6_conflictsByPairs G qy qyn qyt qyu qyf qyr qyb qyk qyi qyx yn yt yu yf yr yb yk yi yx (0 : Int32) zs zl zt zg zr zm) H := hP
  have hD : va_D A (w0_X6_conflictsByPairs G qy qyn qyt qyu qyf qyr qyb qyk qyi qyx yn yt yu yf yr yb yk yi yx (0 : Int32) zs zl zt zg zr zm) := hD
  refine lv_aload_n hx hb dX6_conflictsByPairs_5 rfl (lv_at hl 0 rfl) ?_
  refine kcR_i (kr_V [] ⟨hx, hb, hml, hown, hts⟩ (cn_X6_pairs l G qy qyn qyt qyu qyf qyr qyb qyk qyi qyx yn yt yu yf yr yb yk yi yx (0 : Int32) zs zl zt zg zr zm hw H.size) (cwV 0 hts gX6_conflictsByPairs_X6_pairs rfl rfl rfl (by decide +kernel) ⟨Nat.le_of_ble_eq_true rfl, Nat.le_of_ble_eq_true rfl⟩) hK hG hP hD hS hA [0, 1, 2, 3, 4, 5, 6, 7, 8, 9] rfl rfl 6 0 rfl rfl rfl hl.1 rfl (Nat.le_of_ble_eq_true rfl) dX6_conflictsByPairs_6 ⟨Nat.le_of_ble_eq_true rfl, Nat.le_of_ble_eq_true rfl⟩) hP hD hS hA [0, 1, 2, 3, 4, 5, 6, 7, 8, 9] rfl (fun r1 u H locs hw hP hS => ?_)
  try dsimp only at hw
  exact fin_i ((0 : Int32)) hx hb hr hlocks hK hS hP hD hw dX6_conflictsByPairs_9
