abbrev w0_X6_fill (G : mG) (qy : Nat) (qyn : Nat) (qyt : Nat) (qyu : Nat) (qyf : Nat) (qyr : Nat) (qyb : Nat) (qyk : Nat) (qyi : Nat) (qyx : Nat) (yn : Nat → Int32) (yt : Nat → Int32) (yu : Nat → Int32) (yf : Nat → Int32) (yr : Nat → Int32) (yb : Nat → Int32) (yk : Nat → Int32) (yi : Nat → Int32) (yx : Nat → Int32) (za : Int32) (zs : Int32) (zl : Int32) (zt : Int32) (zg : Int32) (zr : Int32) (zm : Int32) : va_W := [(qy, .inr (6, [.int za, .ref qyn, .ref qyt, .ref qyu, .ref qyf, .ref qyr, .ref qyb, .int zs, .ref qyk, .ref qyi, .ref qyx, .int zl, .int zt, .int zg, .int zr, .int zm])), (qyn, .inl (gI G, (45, .inl yn))), (qyt, .inl (gI G, (45, .inl yt))), (qyu, .inl (gI G, (16384, .inl yu))), (qyf, .inl (gI G, (14, .inl yf))), (qyr, .inl (gI G, (14, .inl yr))), (qyb, .inl (gI G, (270, .inl yb))), (qyk, .inl (gI G, (90, .inl yk))), (qyi, .inl (gZ G, (2, .inl yi))), (qyx, .inl (gI G, (60, .inl yx)))]
set_option maxRecDepth 100000 in
theorem k_X6_fill_inX6 : ∀ w ∈ u_ws RX6 TX6 16, w ∈ wsX6_fill := by decide +kernel
set_option maxRecDepth 100000 in
theorem k_X6_fill_f7 : Cond.fieldLink RX6 7 "RehearsalRoomModel" "now" "[I" ∈ wsX6_fill := by decide +kernel
set_option maxRecDepth 100000 in
theorem k_X6_fill_f16 : Cond.fieldLink RX6 16 "RehearsalRoomModel" "sums" "[I" ∈ wsX6_fill := by decide +kernel
set_option maxRecDepth 100000 in
theorem k_X6_fill_f19 : Cond.fieldLink RX6 19 "RehearsalRoomModel" "foes" "[I" ∈ wsX6_fill := by decide +kernel
set_option maxHeartbeats 8000000 in
set_option maxRecDepth 100000 in
theorem cn_X6_fill (l : Launch) (G : mG) (qy : Nat) (qyn : Nat) (qyt : Nat) (qyu : Nat) (qyf : Nat) (qyr : Nat) (qyb : Nat) (qyk : Nat) (qyi : Nat) (qyx : Nat) (yn : Nat → Int32) (yt : Nat → Int32) (yu : Nat → Int32) (yf : Nat → Int32) (yr : Nat → Int32) (yb : Nat → Int32) (yk : Nat → Int32) (yi : Nat → Int32) (yx : Nat → Int32) (za : Int32) (zs : Int32) (zl : Int32) (zt : Int32) (zg : Int32) (zr : Int32) (zm : Int32) {Q : Int32 → (Nat → Int32) → (Nat → Int32) → Prop} (hw : wn_X6_fill yn yu yf Q) (sz : Nat) :
    Met l yX6_fill wsX6_fill ({ frames := 2, cells := 0, slots := 0, locals := 47 } : Room) (va_Pc [.ref qy] (mPre G (w0_X6_fill G qy qyn qyt qyu qyf qyr qyb qyk qyi qyx yn yt yu yf yr yb yk yi yx za zs zl zt zg zr zm) sz)) (va_Qi (fun (r : Int32) (u : (Nat → Int32) × (Nat → Int32)) => Q r u.1 u.2) (mBk G (va_A (w0_X6_fill G qy qyn qyt qyu qyf qyr qyb qyk qyi qyx yn yt yu yf yr yb yk yi yx za zs zl zt zg zr zm) sz) (fun (u : (Nat → Int32) × (Nat → Int32)) => (w0_X6_fill G qy qyn qyt qyu qyf qyr qyb qyk qyi qyx yn yt u.1 u.2 yr yb yk yi yx za zs zl zt zg zr zm))) (va_A (w0_X6_fill G qy qyn qyt qyu qyf qyr qyb qyk qyi qyx yn yt yu yf yr yb yk yi yx za zs zl zt zg zr zm) sz)) 0 0 (va_A (w0_X6_fill G qy qyn qyt qyu qyf qyr qyb qyk qyi qyx yn yt yu yf yr yb yk yi yx za zs zl zt zg zr zm) sz) := by
  refine ms_i (cc := cX6_fill) (maxL := 5) (ret := some .int) (post := (fun (r : Int32) (u : (Nat → Int32) × (Nat → Int32)) => Q r u.1 u.2)) (w1 := (fun (u : (Nat → Int32) × (Nat → Int32)) => (w0_X6_fill G qy qyn qyt qyu qyf qyr qyb qyk qyi qyx yn yt u.1 u.2 yr yb yk yi yx za zs zl zt zg zr zm))) (by decide) rfl (Nat.le_of_ble_eq_true rfl) ?_ sz
  intro p e s m below meth c A ls H locs hx hb hr hml hown hts hlocks hK hG hP hD hS hA hl
  have hown : s.vm.findClass RX6 = some m.cls := hown
  have hl : lv_has ls 5 [(0, .ref qy)] := hl
  have J131 : ∀ (k54 : (Nat → Int32) → (Nat → Int32) → Int32 → Int32 → Int32 → Prop) (hk54 : ∀ (yu : Nat → Int32) (yf : Nat → Int32) (x1 : Int32) (x2 : Int32) (x3 : Int32) (H : Heap) (locs : List Loc) (ls : Array Slot), va_P (gD G) vwCl (w0_X6_fill G qy qyn qyt qyu qyf qyr qyb qyk qyi qyx yn yt yu yf yr yb yk yi yx za zs zl zt zg zr zm) H → va_D A (w0_X6_fill G qy qyn qyt qyu qyf qyr qyb qyk qyi qyx yn yt yu yf yr yb yk yi yx za zs zl zt zg zr zm) → va_S A s.heap H locs → lv_has ls 5 [(0, .ref qy), (1, .int x1), (2, .int x2), (3, .int x3)] → k54 yu yf x1 x2 x3 → W p l e ({ frames := 2, cells := 0, slots := 0, locals := 47 } : Room) s m ([.ref qy] : List Value).toArray below meth c H locs 0 0 (MQ below (va_Qi (fun (r : Int32) (u : (Nat → Int32) × (Nat → Int32)) => Q r u.1 u.2) (mBk G A (fun (u : (Nat → Int32) × (Nat → Int32)) => (w0_X6_fill G qy qyn qyt qyu qyf qyr qyb qyk qyi qyx yn yt u.1 u.2 yr yb yk yi yx za zs zl zt zg zr zm))) A) ([.ref qy] : List Value).toArray s 0 0 A) (F0 m 54 ls [])) (yu : Nat → Int32) (yf : Nat → Int32) (x1 : Int32) (x2 : Int32) (x3 : Int32) (x4 : Int32) (y1 : Int32) (y2 : Int32) (H : Heap) (locs : List Loc) (ls : Array Slot), va_P (gD G) vwCl (w0_X6_fill G qy qyn qyt qyu qyf qyr qyb qyk qyi qyx yn yt yu yf yr yb yk yi yx za zs zl zt zg zr zm) H → va_D A (w0_X6_fill G qy qyn qyt qyu qyf qyr qyb qyk qyi qyx yn yt yu yf yr yb yk yi yx za zs zl zt zg zr zm) → va_S A s.heap H locs → lv_has ls 5 [(0, .ref qy), (1, .int x1), (2, .int x2), (3, .int x3), (4, .int x4)] → wj_n_X6_fill_131 yn Q k54 yu yf x1 x2 x3 x4 y1 y2 → W p l e ({ frames := 2, cells := 0, slots := 0, locals := 47 } : Room) s m ([.ref qy] : List Value).toArray below meth c H locs 0 0 (MQ below (va_Qi (fun (r : Int32) (u : (Nat → Int32) × (Nat → Int32)) => Q r u.1 u.2) (mBk G A (fun (u : (Nat → Int32) × (Nat → Int32)) => (w0_X6_fill G qy qyn qyt qyu qyf qyr qyb qyk qyi qyx yn yt u.1 u.2 yr yb yk yi yx za zs zl zt zg zr zm))) A) ([.ref qy] : List Value).toArray s 0 0 A) (F0 m 131 ls [.int y2, .int y1, .ref qyu]) := by
    intro k54 hk54 yu yf x1 x2 x3 x4 y1 y2 H locs ls hP hD hS hl hw
    unfold wj_n_X6_fill_131 at hw
    obtain ⟨h9, hw⟩ := hw
    refine va_iast hx hb hK hP hD hS 3 0 rfl rfl h9 dX6_fill_131 (fun H locs hP hD hS => ?_)
    have hP : va_P (gD G) vwCl (w0_X6_fill G qy qyn qyt qyu qyf qyr qyb qyk qyi qyx yn yt (upd yu y1.toNatClampNeg y2) yf yr yb yk yi yx za zs zl zt zg zr zm) H := hP
    have hD : va_D A (w0_X6_fill G qy qyn qyt qyu qyf qyr qyb qyk qyi qyx yn yt (upd yu y1.toNatClampNeg y2) yf yr yb yk yi yx za zs zl zt zg zr zm) := hD
    refine lv_iinc (v := (x3 + 1)) (lv' := [(3, .int (x3 + 1)), (0, .ref qy), (1, .int x1), (2, .int x2), (4, .int x4)]) hx hb dX6_fill_132 hl (k := 3) rfl rfl (by decide) rfl (fun ls hl => ?_)
    refine lv_goto (tgt := 54) hx hb dX6_fill_135 (by decide) ?_
    exact hk54 (upd yu y1.toNatClampNeg y2) yf x1 x2 (x3 + 1) _ _ _ hP hD hS (lv_sub hl [1, 2, 3, 0] rfl) hw
  have J110 : ∀ (k54 : (Nat → Int32) → (Nat → Int32) → Int32 → Int32 → Int32 → Prop) (hk54 : ∀ (yu : Nat → Int32) (yf : Nat → Int32) (x1 : Int32) (x2 : Int32) (x3 : Int32) (H : Heap) (locs : List Loc) (ls : Array Slot), va_P (gD G) vwCl (w0_X6_fill G qy qyn qyt qyu qyf qyr qyb qyk qyi qyx yn yt yu yf yr yb yk yi yx za zs zl zt zg zr zm) H → va_D A (w0_X6_fill G qy qyn qyt qyu qyf qyr qyb qyk qyi qyx yn yt yu yf yr yb yk yi yx za zs zl zt zg zr zm) → va_S A s.heap H locs → lv_has ls 5 [(0, .ref qy), (1, .int x1), (2, .int x2), (3, .int x3)] → k54 yu yf x1 x2 x3 → W p l e ({ frames := 2, cells := 0, slots := 0, locals := 47 } : Room) s m ([.ref qy] : List Value).toArray below meth c H locs 0 0 (MQ below (va_Qi (fun (r : Int32) (u : (Nat → Int32) × (Nat → Int32)) => Q r u.1 u.2) (mBk G A (fun (u : (Nat → Int32) × (Nat → Int32)) => (w0_X6_fill G qy qyn qyt qyu qyf qyr qyb qyk qyi qyx yn yt u.1 u.2 yr yb yk yi yx za zs zl zt zg zr zm))) A) ([.ref qy] : List Value).toArray s 0 0 A) (F0 m 54 ls [])) (yu : Nat → Int32) (yf : Nat → Int32) (x1 : Int32) (x2 : Int32) (x3 : Int32) (x4 : Int32) (y1 : Int32) (H : Heap) (locs : List Loc) (ls : Array Slot), va_P (gD G) vwCl (w0_X6_fill G qy qyn qyt qyu qyf qyr qyb qyk qyi qyx yn yt yu yf yr yb yk yi yx za zs zl zt zg zr zm) H → va_D A (w0_X6_fill G qy qyn qyt qyu qyf qyr qyb qyk qyi qyx yn yt yu yf yr yb yk yi yx za zs zl zt zg zr zm) → va_S A s.heap H locs → lv_has ls 5 [(0, .ref qy), (1, .int x1), (2, .int x2), (3, .int x3), (4, .int x4)] → wj_n_X6_fill_110 yn Q k54 yu yf x1 x2 x3 x4 y1 → W p l e ({ frames := 2, cells := 0, slots := 0, locals := 47 } : Room) s m ([.ref qy] : List Value).toArray below meth c H locs 0 0 (MQ below (va_Qi (fun (r : Int32) (u : (Nat → Int32) × (Nat → Int32)) => Q r u.1 u.2) (mBk G A (fun (u : (Nat → Int32) × (Nat → Int32)) => (w0_X6_fill G qy qyn qyt qyu qyf qyr qyb qyk qyi qyx yn yt u.1 u.2 yr yb yk yi yx za zs zl zt zg zr zm))) A) ([.ref qy] : List Value).toArray s 0 0 A) (F0 m 110 ls [.int y1, .ref qyu]) := by
    intro k54 hk54 yu yf x1 x2 x3 x4 y1 H locs ls hP hD hS hl hw
    unfold wj_n_X6_fill_110 at hw
    refine lv_iconst (v := -1) hx hb dX6_fill_110 (by decide) ?_
    refine lv_goto (tgt := 131) hx hb dX6_fill_111 (by decide) ?_
    exact J131 k54 hk54 yu yf x1 x2 x3 x4 y1 (-1 : Int32) _ _ _ hP hD hS hl hw
  have J73 : ∀ (k54 : (Nat → Int32) → (Nat → Int32) → Int32 → Int32 → Int32 → Prop) (hk54 : ∀ (yu : Nat → Int32) (yf : Nat → Int32) (x1 : Int32) (x2 : Int32) (x3 : Int32) (H : Heap) (locs : List Loc) (ls : Array Slot), va_P (gD G) vwCl (w0_X6_fill G qy qyn qyt qyu qyf qyr qyb qyk qyi qyx yn yt yu yf yr yb yk yi yx za zs zl zt zg zr zm) H → va_D A (w0_X6_fill G qy qyn qyt qyu qyf qyr qyb qyk qyi qyx yn yt yu yf yr yb yk yi yx za zs zl zt zg zr zm) → va_S A s.heap H locs → lv_has ls 5 [(0, .ref qy), (1, .int x1), (2, .int x2), (3, .int x3)] → k54 yu yf x1 x2 x3 → W p l e ({ frames := 2, cells := 0, slots := 0, locals := 47 } : Room) s m ([.ref qy] : List Value).toArray below meth c H locs 0 0 (MQ below (va_Qi (fun (r : Int32) (u : (Nat → Int32) × (Nat → Int32)) => Q r u.1 u.2) (mBk G A (fun (u : (Nat → Int32) × (Nat → Int32)) => (w0_X6_fill G qy qyn qyt qyu qyf qyr qyb qyk qyi qyx yn yt u.1 u.2 yr yb yk yi yx za zs zl zt zg zr zm))) A) ([.ref qy] : List Value).toArray s 0 0 A) (F0 m 54 ls [])) (yu : Nat → Int32) (yf : Nat → Int32) (x1 : Int32) (x2 : Int32) (x3 : Int32) (y0 : Int32) (y1 : Int32) (H : Heap) (locs : List Loc) (ls : Array Slot), (y1 = 0 ∨ y1 = 1) → va_P (gD G) vwCl (w0_X6_fill G qy qyn qyt qyu qyf qyr qyb qyk qyi qyx yn yt yu yf yr yb yk yi yx za zs zl zt zg zr zm) H → va_D A (w0_X6_fill G qy qyn qyt qyu qyf qyr qyb qyk qyi qyx yn yt yu yf yr yb yk yi yx za zs zl zt zg zr zm) → va_S A s.heap H locs → lv_has ls 5 [(0, .ref qy), (1, .int x1), (2, .int x2), (3, .int x3)] → wj_n_X6_fill_73 yn Q k54 yu yf x1 x2 x3 y0 y1 → W p l e ({ frames := 2, cells := 0, slots := 0, locals := 47 } : Room) s m ([.ref qy] : List Value).toArray below meth c H locs 0 0 (MQ below (va_Qi (fun (r : Int32) (u : (Nat → Int32) × (Nat → Int32)) => Q r u.1 u.2) (mBk G A (fun (u : (Nat → Int32) × (Nat → Int32)) => (w0_X6_fill G qy qyn qyt qyu qyf qyr qyb qyk qyi qyx yn yt u.1 u.2 yr yb yk yi yx za zs zl zt zg zr zm))) A) ([.ref qy] : List Value).toArray s 0 0 A) (F0 m 73 ls [.int y1, .int y0]) := by
    intro k54 hk54 yu yf x1 x2 x3 y0 y1 H locs ls hz_y1 hP hD hS hl hw
    unfold wj_n_X6_fill_73 at hw
    refine lv_iadd hx hb dX6_fill_73 ?_
    refine lv_istore_n (lv' := [(2, .int (y0 + y1)), (0, .ref qy), (1, .int x1), (3, .int x3)]) hx hb dX6_fill_74 rfl hl (by decide) rfl (fun ls hl => ?_)
    refine lv_iload_n hx hb dX6_fill_75 rfl (lv_at hl 3 rfl) ?_
    refine lv_iconst (v := 1) hx hb dX6_fill_76 (by decide) ?_
    refine lv_iload_n hx hb dX6_fill_77 rfl (lv_at hl 0 rfl) ?_
    refine lv_ishl hx hb dX6_fill_78 ?_
    refine lv_isub hx hb dX6_fill_79 ?_
    refine lv_istore (lv' := [(4, .int (x3 - ((1 : Int32) <<< ((y0 + y1) &&& 31)))), (2, .int (y0 + y1)), (0, .ref qy), (1, .int x1), (3, .int x3)]) hx hb dX6_fill_80 hl (by decide) rfl (fun ls hl => ?_)
    refine lv_aload_n hx hb dX6_fill_82 rfl (lv_at hl 2 rfl) ?_
    refine va_get (D := gD G) (ci := 6) (v := .ref qyu) (C := RX6) (T := TX6) (N := 16) hx hb hts k_X6_fill_inX6 hown hK hP 0 rfl rfl 3 (by decide) (hts _ k_X6_fill_f16) (fun _ h9 => h9) rfl dX6_fill_83 ?_
    refine lv_iload_n hx hb dX6_fill_86 rfl (lv_at hl 4 rfl) ?_
    refine lv_aload_n hx hb dX6_fill_87 rfl (lv_at hl 2 rfl) ?_
    refine va_get (D := gD G) (ci := 6) (v := .ref qyu) (C := RX6) (T := TX6) (N := 16) hx hb hts k_X6_fill_inX6 hown hK hP 0 rfl rfl 3 (by decide) (hts _ k_X6_fill_f16) (fun _ h9 => h9) rfl dX6_fill_88 ?_
    refine lv_iload hx hb dX6_fill_91 (lv_at hl 0 rfl) ?_
    obtain ⟨h7, hw⟩ := hw
    refine va_iald hx hb hK hP 3 0 rfl rfl h7 dX6_fill_93 ?_
    refine lv_iconst (v := -1) hx hb dX6_fill_94 (by decide) ?_
    refine lv_icmp_eq (tgt := 110) hx hb dX6_fill_95 (by decide) (fun cd8 => ?_) (fun cd8 => ?_)
    · have hw := hw.1 cd8
      exact J110 k54 hk54 yu yf x1 (y0 + y1) x3 (x3 - ((1 : Int32) <<< ((y0 + y1) &&& 31))) x3 _ _ _ hP hD hS (lv_sub hl [2, 3, 1, 4, 0] rfl) hw
    · have hw := hw.2 cd8
      refine lv_aload_n hx hb dX6_fill_98 rfl (lv_at hl 2 rfl) ?_
      refine va_get (D := gD G) (ci := 6) (v := .ref qyf) (C := RX6) (T := TX6) (N := 16) hx hb hts k_X6_fill_inX6 hown hK hP 0 rfl rfl 4 (by decide) (hts _ k_X6_fill_f19) (fun _ h9 => h9) rfl dX6_fill_99 ?_
      refine lv_iload_n hx hb dX6_fill_102 rfl (lv_at hl 1 rfl) ?_
      obtain ⟨h10, hw⟩ := hw
      refine va_iald hx hb hK hP 4 0 rfl rfl h10 dX6_fill_103 ?_
      refine lv_iload hx hb dX6_fill_104 (lv_at hl 0 rfl) ?_
      refine lv_iand hx hb dX6_fill_106 ?_
      refine lv_if_eq (tgt := 114) hx hb dX6_fill_107 (by decide) (fun cd11 => ?_) (fun cd11 => ?_)
      · have hw := hw.1 cd11
        refine lv_aload_n hx hb dX6_fill_114 rfl (lv_at hl 2 rfl) ?_
        refine va_get (D := gD G) (ci := 6) (v := .ref qyu) (C := RX6) (T := TX6) (N := 16) hx hb hts k_X6_fill_inX6 hown hK hP 0 rfl rfl 3 (by decide) (hts _ k_X6_fill_f16) (fun _ h9 => h9) rfl dX6_fill_115 ?_
        refine lv_iload hx hb dX6_fill_118 (lv_at hl 0 rfl) ?_
        obtain ⟨h12, hw⟩ := hw
        refine va_iald hx hb hK hP 3 0 rfl rfl h12 dX6_fill_120 ?_
        refine lv_aload_n hx hb dX6_fill_121 rfl (lv_at hl 2 rfl) ?_
        refine va_get (D := gD G) (ci := 6) (v := .ref qyn) (C := RX6) (T := TX6) (N := 16) hx hb hts k_X6_fill_inX6 hown hK hP 0 rfl rfl 1 (by decide) (hts _ k_X6_fill_f7) (fun _ h9 => h9) rfl dX6_fill_122 ?_
        refine lv_bipush (v := 28) hx hb dX6_fill_125 (by decide) ?_
        refine lv_iload_n hx hb dX6_fill_127 rfl (lv_at hl 1 rfl) ?_
        refine lv_iadd hx hb dX6_fill_128 ?_
        obtain ⟨h13, hw⟩ := hw
        refine va_iald hx hb hK hP 1 0 rfl rfl h13 dX6_fill_129 ?_
        refine lv_iadd hx hb dX6_fill_130 ?_
        exact J131 k54 hk54 yu yf x1 (y0 + y1) x3 (x3 - ((1 : Int32) <<< ((y0 + y1) &&& 31))) x3 ((yu (x3 - ((1 : Int32) <<< ((y0 + y1) &&& 31))).toNatClampNeg) + (yn ((28 : Int32) + (y0 + y1)).toNatClampNeg)) _ _ _ hP hD hS (lv_sub hl [2, 3, 1, 4, 0] rfl) hw
      · have hw := hw.2 cd11
        exact J110 k54 hk54 yu yf x1 (y0 + y1) x3 (x3 - ((1 : Int32) <<< ((y0 + y1) &&& 31))) x3 _ _ _ hP hD hS (lv_sub hl [2, 3, 1, 4, 0] rfl) hw
  have J54 : ∀ (n : Nat) (yu : Nat → Int32) (yf : Nat → Int32) (x1 : Int32) (x2 : Int32) (x3 : Int32) (H : Heap) (locs : List Loc) (ls : Array Slot), va_P (gD G) vwCl (w0_X6_fill G qy qyn qyt qyu qyf qyr qyb qyk qyi qyx yn yt yu yf yr yb yk yi yx za zs zl zt zg zr zm) H → va_D A (w0_X6_fill G qy qyn qyt qyu qyf qyr qyb qyk qyi qyx yn yt yu yf yr yb yk yi yx za zs zl zt zg zr zm) → va_S A s.heap H locs → lv_has ls 5 [(0, .ref qy), (1, .int x1), (2, .int x2), (3, .int x3)] → wl_n_X6_fill_54 yn Q n yu yf x1 x2 x3 → W p l e ({ frames := 2, cells := 0, slots := 0, locals := 47 } : Room) s m ([.ref qy] : List Value).toArray below meth c H locs 0 0 (MQ below (va_Qi (fun (r : Int32) (u : (Nat → Int32) × (Nat → Int32)) => Q r u.1 u.2) (mBk G A (fun (u : (Nat → Int32) × (Nat → Int32)) => (w0_X6_fill G qy qyn qyt qyu qyf qyr qyb qyk qyi qyx yn yt u.1 u.2 yr yb yk yi yx za zs zl zt zg zr zm))) A) ([.ref qy] : List Value).toArray s 0 0 A) (F0 m 54 ls []) := by
    intro n
    induction n with
    | zero => intro yu yf x1 x2 x3 H locs ls hP hD hS hl hw; exact False.elim hw
    | succ n ih =>
      intro yu yf x1 x2 x3 H locs ls hP hD hS hl hw
      rw [wl_n_X6_fill_54] at hw
      refine lv_iload_n hx hb dX6_fill_54 rfl (lv_at hl 3 rfl) ?_
      refine lv_iload_n hx hb dX6_fill_55 rfl (lv_at hl 1 rfl) ?_
      refine lv_icmp_ge (tgt := 138) hx hb dX6_fill_56 (by decide) (fun cd5 => ?_) (fun cd5 => ?_)
      · have hw := hw.1 cd5
        refine lv_iload_n hx hb dX6_fill_138 rfl (lv_at hl 1 rfl) ?_
        exact fin_i (yu, yf) hx hb hr hlocks hK hS hP hD hw dX6_fill_139
      · have hw := hw.2 cd5
        refine lv_iload_n hx hb dX6_fill_59 rfl (lv_at hl 2 rfl) ?_
        refine lv_iload_n hx hb dX6_fill_60 rfl (lv_at hl 3 rfl) ?_
        refine lv_iload_n hx hb dX6_fill_61 rfl (lv_at hl 2 rfl) ?_
        refine lv_iconst (v := 1) hx hb dX6_fill_62 (by decide) ?_
        refine lv_iadd hx hb dX6_fill_63 ?_
        refine lv_ishr hx hb dX6_fill_64 ?_
        refine lv_if_le (tgt := 72) hx hb dX6_fill_65 (by decide) (fun cd6 => ?_) (fun cd6 => ?_)
        · have hw := hw.1 cd6
          refine lv_iconst (v := 0) hx hb dX6_fill_72 (by decide) ?_
          exact J73 (fun (z0 : Nat → Int32) (z1 : Nat → Int32) (z2 : Int32) (z3 : Int32) (z4 : Int32) => wl_n_X6_fill_54 yn Q n z0 z1 z2 z3 z4) ih yu yf x1 x2 x3 x2 (0 : Int32) _ _ _ (Or.inl rfl) hP hD hS hl hw
        · have hw := hw.2 cd6
          refine lv_iconst (v := 1) hx hb dX6_fill_68 (by decide) ?_
          refine lv_goto (tgt := 73) hx hb dX6_fill_69 (by decide) ?_
          exact J73 (fun (z0 : Nat → Int32) (z1 : Nat → Int32) (z2 : Int32) (z3 : Int32) (z4 : Int32) => wl_n_X6_fill_54 yn Q n z0 z1 z2 z3 z4) ih yu yf x1 x2 x3 x2 (1 : Int32) _ _ _ (Or.inr rfl) hP hD hS hl hw
  have J12 : ∀ (n : Nat) (yu : Nat → Int32) (yf : Nat → Int32) (x1 : Int32) (x2 : Int32) (H : Heap) (locs : List Loc) (ls : Array Slot), va_P (gD G) vwCl (w0_X6_fill G qy qyn qyt qyu qyf qyr qyb qyk qyi qyx yn yt yu yf yr yb yk yi yx za zs zl zt zg zr zm) H → va_D A (w0_X6_fill G qy qyn qyt qyu qyf qyr qyb qyk qyi qyx yn yt yu yf yr yb yk yi yx za zs zl zt zg zr zm) → va_S A s.heap H locs → lv_has ls 5 [(0, .ref qy), (1, .int x1), (2, .int x2)] → wl_n_X6_fill_12 yn Q n yu yf x1 x2 → W p l e ({ frames := 2, cells := 0, slots := 0, locals := 47 } : Room) s m ([.ref qy] : List Value).toArray below meth c H locs 0 0 (MQ below (va_Qi (fun (r : Int32) (u : (Nat → Int32) × (Nat → Int32)) => Q r u.1 u.2) (mBk G A (fun (u : (Nat → Int32) × (Nat → Int32)) => (w0_X6_fill G qy qyn qyt qyu qyf qyr qyb qyk qyi qyx yn yt u.1 u.2 yr yb yk yi yx za zs zl zt zg zr zm))) A) ([.ref qy] : List Value).toArray s 0 0 A) (F0 m 12 ls []) := by
    intro n
    induction n with
    | zero => intro yu yf x1 x2 H locs ls hP hD hS hl hw; exact False.elim hw
    | succ n ih =>
      intro yu yf x1 x2 H locs ls hP hD hS hl hw
      rw [wl_n_X6_fill_12] at hw
      refine lv_iload_n hx hb dX6_fill_12 rfl (lv_at hl 2 rfl) ?_
      refine lv_aload_n hx hb dX6_fill_13 rfl (lv_at hl 0 rfl) ?_
      refine va_get (D := gD G) (ci := 6) (v := .ref qyn) (C := RX6) (T := TX6) (N := 16) hx hb hts k_X6_fill_inX6 hown hK hP 0 rfl rfl 1 (by decide) (hts _ k_X6_fill_f7) (fun _ h9 => h9) rfl dX6_fill_14 ?_
      refine lv_bipush (v := 44) hx hb dX6_fill_17 (by decide) ?_
      obtain ⟨h2, hw⟩ := hw
      refine va_iald hx hb hK hP 1 0 rfl rfl h2 dX6_fill_19 ?_
      refine lv_icmp_ge (tgt := 43) hx hb dX6_fill_20 (by decide) (fun cd3 => ?_) (fun cd3 => ?_)
      · have hw := hw.1 cd3
        refine lv_aload_n hx hb dX6_fill_43 rfl (lv_at hl 0 rfl) ?_
        refine va_get (D := gD G) (ci := 6) (v := .ref qyu) (C := RX6) (T := TX6) (N := 16) hx hb hts k_X6_fill_inX6 hown hK hP 0 rfl rfl 3 (by decide) (hts _ k_X6_fill_f16) (fun _ h9 => h9) rfl dX6_fill_44 ?_
        refine lv_iconst (v := 0) hx hb dX6_fill_47 (by decide) ?_
        refine lv_iconst (v := 0) hx hb dX6_fill_48 (by decide) ?_
        obtain ⟨h4, hw⟩ := hw
        refine va_iast hx hb hK hP hD hS 3 0 rfl rfl h4 dX6_fill_49 (fun H locs hP hD hS => ?_)
        have hP : va_P (gD G) vwCl (w0_X6_fill G qy qyn qyt qyu qyf qyr qyb qyk qyi qyx yn yt (upd yu (0 : Int32).toNatClampNeg (0 : Int32)) yf yr yb yk yi yx za zs zl zt zg zr zm) H := hP
        have hD : va_D A (w0_X6_fill G qy qyn qyt qyu qyf qyr qyb qyk qyi qyx yn yt (upd yu (0 : Int32).toNatClampNeg (0 : Int32)) yf yr yb yk yi yx za zs zl zt zg zr zm) := hD
        refine lv_iconst (v := 0) hx hb dX6_fill_50 (by decide) ?_
        refine lv_istore_n (lv' := [(2, .int (0 : Int32)), (0, .ref qy), (1, .int x1)]) hx hb dX6_fill_51 rfl hl (by decide) rfl (fun ls hl => ?_)
        refine lv_iconst (v := 1) hx hb dX6_fill_52 (by decide) ?_
        refine lv_istore_n (lv' := [(3, .int (1 : Int32)), (2, .int (0 : Int32)), (0, .ref qy), (1, .int x1)]) hx hb dX6_fill_53 rfl hl (by decide) rfl (fun ls hl => ?_)
        obtain ⟨n54, hw⟩ := hw
        exact J54 n54 (upd yu (0 : Int32).toNatClampNeg (0 : Int32)) yf x1 (0 : Int32) (1 : Int32) _ _ _ hP hD hS (lv_sub hl [2, 3, 1, 0] rfl) hw
      · have hw := hw.2 cd3
        refine lv_aload_n hx hb dX6_fill_23 rfl (lv_at hl 0 rfl) ?_
        refine va_get (D := gD G) (ci := 6) (v := .ref qyf) (C := RX6) (T := TX6) (N := 16) hx hb hts k_X6_fill_inX6 hown hK hP 0 rfl rfl 4 (by decide) (hts _ k_X6_fill_f19) (fun _ h9 => h9) rfl dX6_fill_24 ?_
        refine lv_iload_n hx hb dX6_fill_27 rfl (lv_at hl 2 rfl) ?_
        refine lv_aload_n hx hb dX6_fill_28 rfl (lv_at hl 0 rfl) ?_
        refine va_get (D := gD G) (ci := 6) (v := .ref qyn) (C := RX6) (T := TX6) (N := 16) hx hb hts k_X6_fill_inX6 hown hK hP 0 rfl rfl 1 (by decide) (hts _ k_X6_fill_f7) (fun _ h9 => h9) rfl dX6_fill_29 ?_
        refine lv_iload_n hx hb dX6_fill_32 rfl (lv_at hl 2 rfl) ?_
        refine kcR_i (kr_S [.int x2, .ref qyf] ⟨hx, hb, hml, hown, hts⟩ (cn_X6_foesOf l G qyn yn x2 hw H.size) (va_cwS 2 hts gX6_fill_X6_foesOf rfl rfl rfl (by decide +kernel) ⟨Nat.le_of_ble_eq_true rfl, Nat.le_of_ble_eq_true rfl⟩) hK hG hP hD hS hA [1] rfl rfl rfl hl.1 rfl (Nat.le_of_ble_eq_true rfl) dX6_fill_33 ⟨Nat.le_of_ble_eq_true rfl, Nat.le_of_ble_eq_true rfl⟩) hP hD hS hA [1] rfl (fun r14 u H locs hw hP hS => ?_)
        try dsimp only at hw
        obtain ⟨h15, hw⟩ := hw
        refine va_iast hx hb hK hP hD hS 4 0 rfl rfl h15 dX6_fill_36 (fun H locs hP hD hS => ?_)
        have hP : va_P (gD G) vwCl (w0_X6_fill G qy qyn qyt qyu qyf qyr qyb qyk qyi qyx yn yt yu (upd yf x2.toNatClampNeg r14) yr yb yk yi yx za zs zl zt zg zr zm) H := hP
        have hD : va_D A (w0_X6_fill G qy qyn qyt qyu qyf qyr qyb qyk qyi qyx yn yt yu (upd yf x2.toNatClampNeg r14) yr yb yk yi yx za zs zl zt zg zr zm) := hD
        refine lv_iinc (v := (x2 + 1)) (lv' := [(2, .int (x2 + 1)), (0, .ref qy), (1, .int x1)]) hx hb dX6_fill_37 hl (k := 2) rfl rfl (by decide) rfl (fun ls hl => ?_)
        refine lv_goto (tgt := 12) hx hb dX6_fill_40 (by decide) ?_
        exact ih yu (upd yf x2.toNatClampNeg r14) x1 (x2 + 1) _ _ _ hP hD hS (lv_sub hl [1, 2, 0] rfl) hw
  unfold wn_X6_fill at hw
  refine lv_iconst (v := 1) hx hb dX6_fill_0 (by decide) ?_
  refine lv_aload_n hx hb dX6_fill_1 rfl (lv_at hl 0 rfl) ?_
  refine va_get (D := gD G) (ci := 6) (v := .ref qyn) (C := RX6) (T := TX6) (N := 16) hx hb hts k_X6_fill_inX6 hown hK hP 0 rfl rfl 1 (by decide) (hts _ k_X6_fill_f7) (fun _ h9 => h9) rfl dX6_fill_2 ?_
  refine lv_bipush (v := 44) hx hb dX6_fill_5 (by decide) ?_
  obtain ⟨h1, hw⟩ := hw
  refine va_iald hx hb hK hP 1 0 rfl rfl h1 dX6_fill_7 ?_
  refine lv_ishl hx hb dX6_fill_8 ?_
  refine lv_istore_n (lv' := [(1, .int ((1 : Int32) <<< ((yn (44 : Int32).toNatClampNeg) &&& 31))), (0, .ref qy)]) hx hb dX6_fill_9 rfl hl (by decide) rfl (fun ls hl => ?_)
  refine lv_iconst (v := 0) hx hb dX6_fill_10 (by decide) ?_
  refine lv_istore_n (lv' := [(2, .int (0 : Int32)), (1, .int ((1 : Int32) <<< ((yn (44 : Int32).toNatClampNeg) &&& 31))), (0, .ref qy)]) hx hb dX6_fill_11 rfl hl (by decide) rfl (fun ls hl => ?_)
  obtain ⟨n12, hw⟩ := hw
  exact J12 n12 yu yf ((1 : Int32) <<< ((yn (44 : Int32).toNatClampNeg) &&& 31)) (0 : Int32) _ _ _ hP hD hS (lv_sub hl [2, 1, 0] rfl) hw

abbrev w0_X6_bestSet (G : mG) (qy : Nat) (qyn : Nat) (qyt : Nat) (qyu : Nat) (qyf : Nat) (qyr : Nat) (qyb : Nat) (qyk : Nat) (qyi : Nat) (qyx : Nat) (yn : Nat → Int32) (yt : Nat → Int32) (yu : Nat → Int32) (yf : Nat → Int32) (yr : Nat → Int32) (yb : Nat → Int32) (yk : Nat → Int32) (yi : Nat → Int32) (yx : Nat → Int32) (za : Int32) (zs : Int32) (zl : Int32) (zt : Int32) (zg : Int32) (zr : Int32) (zm : Int32) : va_W := [(qy, .inr (6, [.int za, .ref qyn, .ref qyt, .ref qyu, .ref qyf, .ref qyr, .ref qyb, .int zs, .ref qyk, .ref qyi, .ref qyx, .int zl, .int zt, .int zg, .int zr, .int zm])), (qyn, .inl (gI G, (45, .inl yn))), (qyt, .inl (gI G, (45, .inl yt))), (qyu, .inl (gI G, (16384, .inl yu))), (qyf, .inl (gI G, (14, .inl yf))), (qyr, .inl (gI G, (14, .inl yr))), (qyb, .inl (gI G, (270, .inl yb))), (qyk, .inl (gI G, (90, .inl yk))), (qyi, .inl (gZ G, (2, .inl yi))), (qyx, .inl (gI G, (60, .inl yx)))]
set_option maxRecDepth 100000 in
theorem k_X6_bestSet_inX6 : ∀ w ∈ u_ws RX6 TX6 16, w ∈ wsX6_bestSet := by decide +kernel
set_option maxRecDepth 100000 in
theorem k_X6_bestSet_f16 : Cond.fieldLink RX6 16 "RehearsalRoomModel" "sums" "[I" ∈ wsX6_bestSet := by decide +kernel
set_option maxHeartbeats 8000000 in
set_option maxRecDepth 100000 in
theorem cn_X6_bestSet (l : Launch) (G : mG) (qy : Nat) (qyn : Nat) (qyt : Nat) (qyu : Nat) (qyf : Nat) (qyr : Nat) (qyb : Nat) (qyk : Nat) (qyi : Nat) (qyx : Nat) (yn : Nat → Int32) (yt : Nat → Int32) (yu : Nat → Int32) (yf : Nat → Int32) (yr : Nat → Int32) (yb : Nat → Int32) (yk : Nat → Int32) (yi : Nat → Int32) (yx : Nat → Int32) (za : Int32) (zs : Int32) (zl : Int32) (zt : Int32) (zg : Int32) (zr : Int32) (zm : Int32) (a1 : Int32) (a2 : Int32) {Q : Int32 → Prop} (hw : wn_X6_bestSet yu a1 a2 Q) (sz : Nat) :
    Met l yX6_bestSet wsX6_bestSet ({ frames := 0, cells := 0, slots := 0, locals := 0 } : Room) (va_Pc [.ref qy, .int a1, .int a2] (mPre G (w0_X6_bestSet G qy qyn qyt qyu qyf qyr qyb qyk qyi qyx yn yt yu yf yr yb yk yi yx za zs zl zt zg zr zm) sz)) (va_Qi (fun (r : Int32) (u : Unit) => Q r) (mBk G (va_A (w0_X6_bestSet G qy qyn qyt qyu qyf qyr qyb qyk qyi qyx yn yt yu yf yr yb yk yi yx za zs zl zt zg zr zm) sz) (fun (u : Unit) => (w0_X6_bestSet G qy qyn qyt qyu qyf qyr qyb qyk qyi qyx yn yt yu yf yr yb yk yi yx za zs zl zt zg zr zm))) (va_A (w0_X6_bestSet G qy qyn qyt qyu qyf qyr qyb qyk qyi qyx yn yt yu yf yr yb yk yi yx za zs zl zt zg zr zm) sz)) 0 0 (va_A (w0_X6_bestSet G qy qyn qyt qyu qyf qyr qyb qyk qyi qyx yn yt yu yf yr yb yk yi yx za zs zl zt zg zr zm) sz) := by
  refine ms_i (cc := cX6_bestSet) (maxL := 6) (ret := some .int) (post := (fun (r : Int32) (u : Unit) => Q r)) (w1 := (fun (u : Unit) => (w0_X6_bestSet G qy qyn qyt qyu qyf qyr qyb qyk qyi qyx yn yt yu yf yr yb yk yi yx za zs zl zt zg zr zm))) (by decide) rfl (Nat.le_of_ble_eq_true rfl) ?_ sz
  intro p e s m below meth c A ls H locs hx hb hr hml hown hts hlocks hK hG hP hD hS hA hl
  have hown : s.vm.findClass RX6 = some m.cls := hown
  have hl : lv_has ls 6 [(0, .ref qy), (1, .int a1), (2, .int a2)] := hl
  have J63 : ∀ (k5 : Int32 → Int32 → Int32 → Int32 → Prop) (hk5 : ∀ (x1 : Int32) (x2 : Int32) (x3 : Int32) (x4 : Int32) (H : Heap) (locs : List Loc) (ls : Array Slot), va_P (gD G) vwCl (w0_X6_bestSet G qy qyn qyt qyu qyf qyr qyb qyk qyi qyx yn yt yu yf yr yb yk yi yx za zs zl zt zg zr zm) H → va_D A (w0_X6_bestSet G qy qyn qyt qyu qyf qyr qyb qyk qyi qyx yn yt yu yf yr yb yk yi yx za zs zl zt zg zr zm) → va_S A s.heap H locs → lv_has ls 6 [(0, .ref qy), (1, .int x1), (2, .int x2), (3, .int x3), (4, .int x4)] → k5 x1 x2 x3 x4 → W p l e ({ frames := 0, cells := 0, slots := 0, locals := 0 } : Room) s m ([.ref qy, .int a1, .int a2] : List Value).toArray below meth c H locs 0 0 (MQ below (va_Qi (fun (r : Int32) (u : Unit) => Q r) (mBk G A (fun (u : Unit) => (w0_X6_bestSet G qy qyn qyt qyu qyf qyr qyb qyk qyi qyx yn yt yu yf yr yb yk yi yx za zs zl zt zg zr zm))) A) ([.ref qy, .int a1, .int a2] : List Value).toArray s 0 0 A) (F0 m 5 ls [])) (x1 : Int32) (x2 : Int32) (x3 : Int32) (x4 : Int32) (x5 : Int32) (H : Heap) (locs : List Loc) (ls : Array Slot), (x5 = 0 ∨ x5 = 1) → va_P (gD G) vwCl (w0_X6_bestSet G qy qyn qyt qyu qyf qyr qyb qyk qyi qyx yn yt yu yf yr yb yk yi yx za zs zl zt zg zr zm) H → va_D A (w0_X6_bestSet G qy qyn qyt qyu qyf qyr qyb qyk qyi qyx yn yt yu yf yr yb yk yi yx za zs zl zt zg zr zm) → va_S A s.heap H locs → lv_has ls 6 [(0, .ref qy), (1, .int x1), (2, .int x2), (3, .int x3), (4, .int x4), (5, .int x5)] → wj_n_X6_bestSet_63 yu Q k5 x1 x2 x3 x4 x5 → W p l e ({ frames := 0, cells := 0, slots := 0, locals := 0 } : Room) s m ([.ref qy, .int a1, .int a2] : List Value).toArray below meth c H locs 0 0 (MQ below (va_Qi (fun (r : Int32) (u : Unit) => Q r) (mBk G A (fun (u : Unit) => (w0_X6_bestSet G qy qyn qyt qyu qyf qyr qyb qyk qyi qyx yn yt yu yf yr yb yk yi yx za zs zl zt zg zr zm))) A) ([.ref qy, .int a1, .int a2] : List Value).toArray s 0 0 A) (F0 m 63 ls []) := by
    intro k5 hk5 x1 x2 x3 x4 x5 H locs ls hz_x5 hP hD hS hl hw
    unfold wj_n_X6_bestSet_63 at hw
    refine lv_iload hx hb dX6_bestSet_63 (lv_at hl 4 rfl) ?_
    refine lv_goto (tgt := 69) hx hb dX6_bestSet_65 (by decide) ?_
    refine lv_istore_n (lv' := [(3, .int x4), (0, .ref qy), (1, .int x1), (2, .int x2), (4, .int x4), (5, .int x5)]) hx hb dX6_bestSet_69 rfl hl (by decide) rfl (fun ls hl => ?_)
    refine lv_iinc (v := (x4 + 1)) (lv' := [(4, .int (x4 + 1)), (3, .int x4), (0, .ref qy), (1, .int x1), (2, .int x2), (5, .int x5)]) hx hb dX6_bestSet_70 hl (k := 4) rfl rfl (by decide) rfl (fun ls hl => ?_)
    refine lv_goto (tgt := 5) hx hb dX6_bestSet_73 (by decide) ?_
    exact hk5 x1 x2 x4 (x4 + 1) _ _ _ hP hD hS (lv_sub hl [2, 3, 4, 1, 0] rfl) hw
  have J35 : ∀ (k5 : Int32 → Int32 → Int32 → Int32 → Prop) (hk5 : ∀ (x1 : Int32) (x2 : Int32) (x3 : Int32) (x4 : Int32) (H : Heap) (locs : List Loc) (ls : Array Slot), va_P (gD G) vwCl (w0_X6_bestSet G qy qyn qyt qyu qyf qyr qyb qyk qyi qyx yn yt yu yf yr yb yk yi yx za zs zl zt zg zr zm) H → va_D A (w0_X6_bestSet G qy qyn qyt qyu qyf qyr qyb qyk qyi qyx yn yt yu yf yr yb yk yi yx za zs zl zt zg zr zm) → va_S A s.heap H locs → lv_has ls 6 [(0, .ref qy), (1, .int x1), (2, .int x2), (3, .int x3), (4, .int x4)] → k5 x1 x2 x3 x4 → W p l e ({ frames := 0, cells := 0, slots := 0, locals := 0 } : Room) s m ([.ref qy, .int a1, .int a2] : List Value).toArray below meth c H locs 0 0 (MQ below (va_Qi (fun (r : Int32) (u : Unit) => Q r) (mBk G A (fun (u : Unit) => (w0_X6_bestSet G qy qyn qyt qyu qyf qyr qyb qyk qyi qyx yn yt yu yf yr yb yk yi yx za zs zl zt zg zr zm))) A) ([.ref qy, .int a1, .int a2] : List Value).toArray s 0 0 A) (F0 m 5 ls [])) (x1 : Int32) (x2 : Int32) (x3 : Int32) (x4 : Int32) (y0 : Int32) (H : Heap) (locs : List Loc) (ls : Array Slot), (y0 = 0 ∨ y0 = 1) → va_P (gD G) vwCl (w0_X6_bestSet G qy qyn qyt qyu qyf qyr qyb qyk qyi qyx yn yt yu yf yr yb yk yi yx za zs zl zt zg zr zm) H → va_D A (w0_X6_bestSet G qy qyn qyt qyu qyf qyr qyb qyk qyi qyx yn yt yu yf yr yb yk yi yx za zs zl zt zg zr zm) → va_S A s.heap H locs → lv_has ls 6 [(0, .ref qy), (1, .int x1), (2, .int x2), (3, .int x3), (4, .int x4)] → wj_n_X6_bestSet_35 yu Q k5 x1 x2 x3 x4 y0 → W p l e ({ frames := 0, cells := 0, slots := 0, locals := 0 } : Room) s m ([.ref qy, .int a1, .int a2] : List Value).toArray below meth c H locs 0 0 (MQ below (va_Qi (fun (r : Int32) (u : Unit) => Q r) (mBk G A (fun (u : Unit) => (w0_X6_bestSet G qy qyn qyt qyu qyf qyr qyb qyk qyi qyx yn yt yu yf yr yb yk yi yx za zs zl zt zg zr zm))) A) ([.ref qy, .int a1, .int a2] : List Value).toArray s 0 0 A) (F0 m 35 ls [.int y0]) := by
    intro k5 hk5 x1 x2 x3 x4 y0 H locs ls hz_y0 hP hD hS hl hw
    unfold wj_n_X6_bestSet_35 at hw
    refine lv_istore (lv' := [(5, .int y0), (0, .ref qy), (1, .int x1), (2, .int x2), (3, .int x3), (4, .int x4)]) hx hb dX6_bestSet_35 hl (by decide) rfl (fun ls hl => ?_)
    refine lv_iload hx hb dX6_bestSet_37 (lv_at hl 0 rfl) ?_
    refine lv_if_eq (tgt := 68) hx hb dX6_bestSet_39 (by decide) (fun cd4 => ?_) (fun cd4 => ?_)
    · have hw := hw.1 cd4
      refine lv_iload_n hx hb dX6_bestSet_68 rfl (lv_at hl 4 rfl) ?_
      refine lv_istore_n (lv' := [(3, .int x3), (5, .int y0), (0, .ref qy), (1, .int x1), (2, .int x2), (4, .int x4)]) hx hb dX6_bestSet_69 rfl hl (by decide) rfl (fun ls hl => ?_)
      refine lv_iinc (v := (x4 + 1)) (lv' := [(4, .int (x4 + 1)), (3, .int x3), (5, .int y0), (0, .ref qy), (1, .int x1), (2, .int x2)]) hx hb dX6_bestSet_70 hl (k := 5) rfl rfl (by decide) rfl (fun ls hl => ?_)
      refine lv_goto (tgt := 5) hx hb dX6_bestSet_73 (by decide) ?_
      exact hk5 x1 x2 x3 (x4 + 1) _ _ _ hP hD hS (lv_sub hl [3, 4, 5, 1, 0] rfl) hw
    · have hw := hw.2 cd4
      refine lv_iload_n hx hb dX6_bestSet_42 rfl (lv_at hl 4 rfl) ?_
      refine lv_iconst (v := -1) hx hb dX6_bestSet_43 (by decide) ?_
      refine lv_icmp_eq (tgt := 63) hx hb dX6_bestSet_44 (by decide) (fun cd5 => ?_) (fun cd5 => ?_)
      · have hw := hw.1 cd5
        exact J63 k5 hk5 x1 x2 x3 x4 y0 _ _ _ hz_y0 hP hD hS (lv_sub hl [1, 2, 3, 4, 5, 0] rfl) hw
      · have hw := hw.2 cd5
        refine lv_aload_n hx hb dX6_bestSet_47 rfl (lv_at hl 1 rfl) ?_
        refine va_get (D := gD G) (ci := 6) (v := .ref qyu) (C := RX6) (T := TX6) (N := 16) hx hb hts k_X6_bestSet_inX6 hown hK hP 0 rfl rfl 3 (by decide) (hts _ k_X6_bestSet_f16) (fun _ h9 => h9) rfl dX6_bestSet_48 ?_
        refine lv_iload hx hb dX6_bestSet_51 (lv_at hl 5 rfl) ?_
        obtain ⟨h6, hw⟩ := hw
        refine va_iald hx hb hK hP 3 0 rfl rfl h6 dX6_bestSet_53 ?_
        refine lv_aload_n hx hb dX6_bestSet_54 rfl (lv_at hl 1 rfl) ?_
        refine va_get (D := gD G) (ci := 6) (v := .ref qyu) (C := RX6) (T := TX6) (N := 16) hx hb hts k_X6_bestSet_inX6 hown hK hP 0 rfl rfl 3 (by decide) (hts _ k_X6_bestSet_f16) (fun _ h9 => h9) rfl dX6_bestSet_55 ?_
        refine lv_iload_n hx hb dX6_bestSet_58 rfl (lv_at hl 4 rfl) ?_
        obtain ⟨h7, hw⟩ := hw
        refine va_iald hx hb hK hP 3 0 rfl rfl h7 dX6_bestSet_59 ?_
        refine lv_icmp_le (tgt := 68) hx hb dX6_bestSet_60 (by decide) (fun cd8 => ?_) (fun cd8 => ?_)
        · have hw := hw.1 cd8
          refine lv_iload_n hx hb dX6_bestSet_68 rfl (lv_at hl 4 rfl) ?_
          refine lv_istore_n (lv' := [(3, .int x3), (5, .int y0), (0, .ref qy), (1, .int x1), (2, .int x2), (4, .int x4)]) hx hb dX6_bestSet_69 rfl hl (by decide) rfl (fun ls hl => ?_)
          refine lv_iinc (v := (x4 + 1)) (lv' := [(4, .int (x4 + 1)), (3, .int x3), (5, .int y0), (0, .ref qy), (1, .int x1), (2, .int x2)]) hx hb dX6_bestSet_70 hl (k := 5) rfl rfl (by decide) rfl (fun ls hl => ?_)
          refine lv_goto (tgt := 5) hx hb dX6_bestSet_73 (by decide) ?_
          exact hk5 x1 x2 x3 (x4 + 1) _ _ _ hP hD hS (lv_sub hl [3, 4, 5, 1, 0] rfl) hw
        · have hw := hw.2 cd8
          exact J63 k5 hk5 x1 x2 x3 x4 y0 _ _ _ hz_y0 hP hD hS (lv_sub hl [1, 2, 3, 4, 5, 0] rfl) hw
  have J34 : ∀ (k5 : Int32 → Int32 → Int32 → Int32 → Prop) (hk5 : ∀ (x1 : Int32) (x2 : Int32) (x3 : Int32) (x4 : Int32) (H : Heap) (locs : List Loc) (ls : Array Slot), va_P (gD G) vwCl (w0_X6_bestSet G qy qyn qyt qyu qyf qyr qyb qyk qyi qyx yn yt yu yf yr yb yk yi yx za zs zl zt zg zr zm) H → va_D A (w0_X6_bestSet G qy qyn qyt qyu qyf qyr qyb qyk qyi qyx yn yt yu yf yr yb yk yi yx za zs zl zt zg zr zm) → va_S A s.heap H locs → lv_has ls 6 [(0, .ref qy), (1, .int x1), (2, .int x2), (3, .int x3), (4, .int x4)] → k5 x1 x2 x3 x4 → W p l e ({ frames := 0, cells := 0, slots := 0, locals := 0 } : Room) s m ([.ref qy, .int a1, .int a2] : List Value).toArray below meth c H locs 0 0 (MQ below (va_Qi (fun (r : Int32) (u : Unit) => Q r) (mBk G A (fun (u : Unit) => (w0_X6_bestSet G qy qyn qyt qyu qyf qyr qyb qyk qyi qyx yn yt yu yf yr yb yk yi yx za zs zl zt zg zr zm))) A) ([.ref qy, .int a1, .int a2] : List Value).toArray s 0 0 A) (F0 m 5 ls [])) (x1 : Int32) (x2 : Int32) (x3 : Int32) (x4 : Int32) (H : Heap) (locs : List Loc) (ls : Array Slot), va_P (gD G) vwCl (w0_X6_bestSet G qy qyn qyt qyu qyf qyr qyb qyk qyi qyx yn yt yu yf yr yb yk yi yx za zs zl zt zg zr zm) H → va_D A (w0_X6_bestSet G qy qyn qyt qyu qyf qyr qyb qyk qyi qyx yn yt yu yf yr yb yk yi yx za zs zl zt zg zr zm) → va_S A s.heap H locs → lv_has ls 6 [(0, .ref qy), (1, .int x1), (2, .int x2), (3, .int x3), (4, .int x4)] → wj_n_X6_bestSet_34 yu Q k5 x1 x2 x3 x4 → W p l e ({ frames := 0, cells := 0, slots := 0, locals := 0 } : Room) s m ([.ref qy, .int a1, .int a2] : List Value).toArray below meth c H locs 0 0 (MQ below (va_Qi (fun (r : Int32) (u : Unit) => Q r) (mBk G A (fun (u : Unit) => (w0_X6_bestSet G qy qyn qyt qyu qyf qyr qyb qyk qyi qyx yn yt yu yf yr yb yk yi yx za zs zl zt zg zr zm))) A) ([.ref qy, .int a1, .int a2] : List Value).toArray s 0 0 A) (F0 m 34 ls []) := by
    intro k5 hk5 x1 x2 x3 x4 H locs ls hP hD hS hl hw
    unfold wj_n_X6_bestSet_34 at hw
    refine lv_iconst (v := 0) hx hb dX6_bestSet_34 (by decide) ?_
    exact J35 k5 hk5 x1 x2 x3 x4 (0 : Int32) _ _ _ (Or.inl rfl) hP hD hS hl hw
  have J5 : ∀ (n : Nat) (x1 : Int32) (x2 : Int32) (x3 : Int32) (x4 : Int32) (H : Heap) (locs : List Loc) (ls : Array Slot), va_P (gD G) vwCl (w0_X6_bestSet G qy qyn qyt qyu qyf qyr qyb qyk qyi qyx yn yt yu yf yr yb yk yi yx za zs zl zt zg zr zm) H → va_D A (w0_X6_bestSet G qy qyn qyt qyu qyf qyr qyb qyk qyi qyx yn yt yu yf yr yb yk yi yx za zs zl zt zg zr zm) → va_S A s.heap H locs → lv_has ls 6 [(0, .ref qy), (1, .int x1), (2, .int x2), (3, .int x3), (4, .int x4)] → wl_n_X6_bestSet_5 yu Q n x1 x2 x3 x4 → W p l e ({ frames := 0, cells := 0, slots := 0, locals := 0 } : Room) s m ([.ref qy, .int a1, .int a2] : List Value).toArray below meth c H locs 0 0 (MQ below (va_Qi (fun (r : Int32) (u : Unit) => Q r) (mBk G A (fun (u : Unit) => (w0_X6_bestSet G qy qyn qyt qyu qyf qyr qyb qyk qyi qyx yn yt yu yf yr yb yk yi yx za zs zl zt zg zr zm))) A) ([.ref qy, .int a1, .int a2] : List Value).toArray s 0 0 A) (F0 m 5 ls []) := by
    intro n
    induction n with
    | zero => intro x1 x2 x3 x4 H locs ls hP hD hS hl hw; exact False.elim hw
    | succ n ih =>
      intro x1 x2 x3 x4 H locs ls hP hD hS hl hw
      rw [wl_n_X6_bestSet_5] at hw
      refine lv_iload hx hb dX6_bestSet_5 (lv_at hl 4 rfl) ?_
      refine lv_iload_n hx hb dX6_bestSet_7 rfl (lv_at hl 1 rfl) ?_
      refine lv_icmp_ge (tgt := 76) hx hb dX6_bestSet_8 (by decide) (fun cd1 => ?_) (fun cd1 => ?_)
      · have hw := hw.1 cd1
        refine lv_iload_n hx hb dX6_bestSet_76 rfl (lv_at hl 3 rfl) ?_
        exact fin_i () hx hb hr hlocks hK hS hP hD hw dX6_bestSet_77
      · have hw := hw.2 cd1
        refine lv_aload_n hx hb dX6_bestSet_11 rfl (lv_at hl 0 rfl) ?_
        refine va_get (D := gD G) (ci := 6) (v := .ref qyu) (C := RX6) (T := TX6) (N := 16) hx hb hts k_X6_bestSet_inX6 hown hK hP 0 rfl rfl 3 (by decide) (hts _ k_X6_bestSet_f16) (fun _ h9 => h9) rfl dX6_bestSet_12 ?_
        refine lv_iload hx hb dX6_bestSet_15 (lv_at hl 4 rfl) ?_
        obtain ⟨h2, hw⟩ := hw
        refine va_iald hx hb hK hP 3 0 rfl rfl h2 dX6_bestSet_17 ?_
        refine lv_iconst (v := -1) hx hb dX6_bestSet_18 (by decide) ?_
        refine lv_icmp_eq (tgt := 34) hx hb dX6_bestSet_19 (by decide) (fun cd3 => ?_) (fun cd3 => ?_)
        · have hw := hw.1 cd3
          exact J34 (fun (z0 : Int32) (z1 : Int32) (z2 : Int32) (z3 : Int32) => wl_n_X6_bestSet_5 yu Q n z0 z1 z2 z3) ih x1 x2 x3 x4 _ _ _ hP hD hS hl hw
        · have hw := hw.2 cd3
          refine lv_iload hx hb dX6_bestSet_22 (lv_at hl 4 rfl) ?_
          refine lv_iload_n hx hb dX6_bestSet_24 rfl (lv_at hl 2 rfl) ?_
          refine lv_iand hx hb dX6_bestSet_25 ?_
          refine lv_iload_n hx hb dX6_bestSet_26 rfl (lv_at hl 2 rfl) ?_
          refine lv_icmp_ne (tgt := 34) hx hb dX6_bestSet_27 (by decide) (fun cd9 => ?_) (fun cd9 => ?_)
          · have hw := hw.1 cd9
            exact J34 (fun (z0 : Int32) (z1 : Int32) (z2 : Int32) (z3 : Int32) => wl_n_X6_bestSet_5 yu Q n z0 z1 z2 z3) ih x1 x2 x3 x4 _ _ _ hP hD hS hl hw
          · have hw := hw.2 cd9
            refine lv_iconst (v := 1) hx hb dX6_bestSet_30 (by decide) ?_
            refine lv_goto (tgt := 35) hx hb dX6_bestSet_31 (by decide) ?_
            exact J35 (fun (z0 : Int32) (z1 : Int32) (z2 : Int32) (z3 : Int32) => wl_n_X6_bestSet_5 yu Q n z0 z1 z2 z3) ih x1 x2 x3 x4 (1 : Int32) _ _ _ (Or.inr rfl) hP hD hS hl hw
  unfold wn_X6_bestSet at hw
  refine lv_iconst (v := -1) hx hb dX6_bestSet_0 (by decide) ?_
  refine lv_istore_n (lv' := [(3, .int (-1 : Int32)), (0, .ref qy), (1, .int a1), (2, .int a2)]) hx hb dX6_bestSet_1 rfl hl (by decide) rfl (fun ls hl => ?_)
  refine lv_iconst (v := 0) hx hb dX6_bestSet_2 (by decide) ?_
  refine lv_istore (lv' := [(4, .int (0 : Int32)), (3, .int (-1 : Int32)), (0, .ref qy), (1, .int a1), (2, .int a2)]) hx hb dX6_bestSet_3 hl (by decide) rfl (fun ls hl => ?_)
  obtain ⟨n5, hw⟩ := hw
  exact J5 n5 a1 a2 (-1 : Int32) (0 : Int32) _ _ _ hP hD hS (lv_sub hl [2, 3, 4, 1, 0] rfl) hw

abbrev w0_X6_bestFame (G : mG) (qy : Nat) (qyn : Nat) (qyt : Nat) (qyu : Nat) (qyf : Nat) (qyr : Nat) (qyb : Nat) (qyk : Nat) (qyi : Nat) (qyx : Nat) (yn : Nat → Int32) (yt : Nat → Int32) (yu : Nat → Int32) (yf : Nat → Int32) (yr : Nat → Int32) (yb : Nat → Int32) (yk : Nat → Int32) (yi : Nat → Int32) (yx : Nat → Int32) (za : Int32) (zs : Int32) (zl : Int32) (zt : Int32) (zg : Int32) (zr : Int32) (zm : Int32) : va_W := [(qy, .inr (6, [.int za, .ref qyn, .ref qyt, .ref qyu, .ref qyf, .ref qyr, .ref qyb, .int zs, .ref qyk, .ref qyi, .ref qyx, .int zl, .int zt, .int zg, .int zr, .int zm])), (qyn, .inl (gI G, (45, .inl yn))), (qyt, .inl (gI G, (45, .inl yt))), (qyu, .inl (gI G, (16384, .inl yu))), (qyf, .inl (gI G, (14, .inl yf))), (qyr, .inl (gI G, (14, .inl yr))), (qyb, .inl (gI G, (270, .inl yb))), (qyk, .inl (gI G, (90, .inl yk))), (qyi, .inl (gZ G, (2, .inl yi))), (qyx, .inl (gI G, (60, .inl yx)))]
set_option maxRecDepth 100000 in
theorem k_X6_bestFame_inX6 : ∀ w ∈ u_ws RX6 TX6 16, w ∈ wsX6_bestFame := by decide +kernel
set_option maxRecDepth 100000 in
theorem k_X6_bestFame_f16 : Cond.fieldLink RX6 16 "RehearsalRoomModel" "sums" "[I" ∈ wsX6_bestFame := by decide +kernel
set_option maxHeartbeats 8000000 in
set_option maxRecDepth 100000 in
theorem cn_X6_bestFame (l : Launch) (G : mG) (qy : Nat) (qyn : Nat) (qyt : Nat) (qyu : Nat) (qyf : Nat) (qyr : Nat) (qyb : Nat) (qyk : Nat) (qyi : Nat) (qyx : Nat) (yn : Nat → Int32) (yt : Nat → Int32) (yu : Nat → Int32) (yf : Nat → Int32) (yr : Nat → Int32) (yb : Nat → Int32) (yk : Nat → Int32) (yi : Nat → Int32) (yx : Nat → Int32) (za : Int32) (zs : Int32) (zl : Int32) (zt : Int32) (zg : Int32) (zr : Int32) (zm : Int32) {Q : Int32 → (Nat → Int32) → (Nat → Int32) → Prop} (hw : wn_X6_bestFame yn yu yf Q) (sz : Nat) :
    Met l yX6_bestFame wsX6_bestFame ({ frames := 3, cells := 0, slots := 0, locals := 71 } : Room) (va_Pc [.ref qy] (mPre G (w0_X6_bestFame G qy qyn qyt qyu qyf qyr qyb qyk qyi qyx yn yt yu yf yr yb yk yi yx za zs zl zt zg zr zm) sz)) (va_Qi (fun (r : Int32) (u : (Nat → Int32) × (Nat → Int32)) => Q r u.1 u.2) (mBk G (va_A (w0_X6_bestFame G qy qyn qyt qyu qyf qyr qyb qyk qyi qyx yn yt yu yf yr yb yk yi yx za zs zl zt zg zr zm) sz) (fun (u : (Nat → Int32) × (Nat → Int32)) => (w0_X6_bestFame G qy qyn qyt qyu qyf qyr qyb qyk qyi qyx yn yt u.1 u.2 yr yb yk yi yx za zs zl zt zg zr zm))) (va_A (w0_X6_bestFame G qy qyn qyt qyu qyf qyr qyb qyk qyi qyx yn yt yu yf yr yb yk yi yx za zs zl zt zg zr zm) sz)) 0 0 (va_A (w0_X6_bestFame G qy qyn qyt qyu qyf qyr qyb qyk qyi qyx yn yt yu yf yr yb yk yi yx za zs zl zt zg zr zm) sz) := by
  refine ms_i (cc := cX6_bestFame) (maxL := 1) (ret := some .int) (post := (fun (r : Int32) (u : (Nat → Int32) × (Nat → Int32)) => Q r u.1 u.2)) (w1 := (fun (u : (Nat → Int32) × (Nat → Int32)) => (w0_X6_bestFame G qy qyn qyt qyu qyf qyr qyb qyk qyi qyx yn yt u.1 u.2 yr yb yk yi yx za zs zl zt zg zr zm))) (by decide) rfl (Nat.le_of_ble_eq_true rfl) ?_ sz
  intro p e s m below meth c A ls H locs hx hb hr hml hown hts hlocks hK hG hP hD hS hA hl
  have hown : s.vm.findClass RX6 = some m.cls := hown
  have hl : lv_has ls 1 [(0, .ref qy)] := hl
  unfold wn_X6_bestFame at hw
  refine lv_aload_n hx hb dX6_bestFame_0 rfl (lv_at hl 0 rfl) ?_
  refine va_get (D := gD G) (ci := 6) (v := .ref qyu) (C := RX6) (T := TX6) (N := 16) hx hb hts k_X6_bestFame_inX6 hown hK hP 0 rfl rfl 3 (by decide) (hts _ k_X6_bestFame_f16) (fun _ h9 => h9) rfl dX6_bestFame_1 ?_
  refine lv_aload_n hx hb dX6_bestFame_4 rfl (lv_at hl 0 rfl) ?_
  refine lv_aload_n hx hb dX6_bestFame_5 rfl (lv_at hl 0 rfl) ?_
  refine kc_i (kr_V [.ref qy, .ref qyu] ⟨hx, hb, hml, hown, hts⟩ (cn_X6_fill l G qy qyn qyt qyu qyf qyr qyb qyk qyi qyx yn yt yu yf yr yb yk yi yx za zs zl zt zg zr zm hw H.size) (cwV 0 hts gX6_bestFame_X6_fill rfl rfl rfl (by decide +kernel) ⟨Nat.le_of_ble_eq_true rfl, Nat.le_of_ble_eq_true rfl⟩) hK hG hP hD hS hA [0, 1, 2, 3, 4, 5, 6, 7, 8, 9] rfl rfl 6 0 rfl rfl rfl hl.1 rfl (Nat.le_of_ble_eq_true rfl) dX6_bestFame_6 ⟨Nat.le_of_ble_eq_true rfl, Nat.le_of_ble_eq_true rfl⟩) hP hD hS hA [0, 1, 2, 3, 4, 5, 6, 7, 8, 9] [] rfl rfl rfl (by decide) (fun r1 u H locs hw hP hD hS => ?_)
  obtain ⟨yu_2, yf_3⟩ := u
  try dsimp only at hw
  have hP := hP.sub (ws' := (w0_X6_bestFame G qy qyn qyt qyu qyf qyr qyb qyk qyi qyx yn yt yu_2 yf_3 yr yb yk yi yx za zs zl zt zg zr zm)) [0, 1, 2, 3, 4, 5, 6, 7, 8, 9] rfl
  have hD := hD.sub (ws' := (w0_X6_bestFame G qy qyn qyt qyu qyf qyr qyb qyk qyi qyx yn yt yu_2 yf_3 yr yb yk yi yx za zs zl zt zg zr zm)) [0, 1, 2, 3, 4, 5, 6, 7, 8, 9] rfl rfl
  refine lv_iconst (v := 0) hx hb dX6_bestFame_9 (by decide) ?_
  refine kcR_i (kr_V [.ref qyu] ⟨hx, hb, hml, hown, hts⟩ (cn_X6_bestSet l G qy qyn qyt qyu qyf qyr qyb qyk qyi qyx yn yt yu_2 yf_3 yr yb yk yi yx za zs zl zt zg zr zm r1 (0 : Int32) hw H.size) (cwV 2 hts gX6_bestFame_X6_bestSet rfl rfl rfl (by decide +kernel) ⟨Nat.le_of_ble_eq_true rfl, Nat.le_of_ble_eq_true rfl⟩) hK hG hP hD hS hA [0, 1, 2, 3, 4, 5, 6, 7, 8, 9] rfl rfl 6 0 rfl rfl rfl hl.1 rfl (Nat.le_of_ble_eq_true rfl) dX6_bestFame_10 ⟨Nat.le_of_ble_eq_true rfl, Nat.le_of_ble_eq_true rfl⟩) hP hD hS hA [0, 1, 2, 3, 4, 5, 6, 7, 8, 9] rfl (fun r4 u H locs hw hP hS => ?_)
  try dsimp only at hw
  obtain ⟨h5, hw⟩ := hw
  refine va_iald hx hb hK hP 3 0 rfl rfl h5 dX6_bestFame_13 ?_
  exact fin_i (yu_2, yf_3) hx hb hr hlocks hK hS hP hD hw dX6_bestFame_14

abbrev w0_X6_most (G : mG) (qy : Nat) (qyn : Nat) (qyt : Nat) (qyu : Nat) (qyf : Nat) (qyr : Nat) (qyb : Nat) (qyk : Nat) (qyi : Nat) (qyx : Nat) (yn : Nat → Int32) (yt : Nat → Int32) (yu : Nat → Int32) (yf : Nat → Int32) (yr : Nat → Int32) (yb : Nat → Int32) (yk : Nat → Int32) (yi : Nat → Int32) (yx : Nat → Int32) (za : Int32) (zs : Int32) (zl : Int32) (zt : Int32) (zg : Int32) (zr : Int32) (zm : Int32) : va_W := [(qy, .inr (6, [.int za, .ref qyn, .ref qyt, .ref qyu, .ref qyf, .ref qyr, .ref qyb, .int zs, .ref qyk, .ref qyi, .ref qyx, .int zl, .int zt, .int zg, .int zr, .int zm])), (qyn, .inl (gI G, (45, .inl yn))), (qyt, .inl (gI G, (45, .inl yt))), (qyu, .inl (gI G, (16384, .inl yu))), (qyf, .inl (gI G, (14, .inl yf))), (qyr, .inl (gI G, (14, .inl yr))), (qyb, .inl (gI G, (270, .inl yb))), (qyk, .inl (gI G, (90, .inl yk))), (qyi, .inl (gZ G, (2, .inl yi))), (qyx, .inl (gI G, (60, .inl yx)))]
set_option maxRecDepth 100000 in
theorem k_X6_most_inX6 : ∀ w ∈ u_ws RX6 TX6 16, w ∈ wsX6_most := by decide +kernel
set_option maxRecDepth 100000 in
theorem k_X6_most_f16 : Cond.fieldLink RX6 16 "RehearsalRoomModel" "sums" "[I" ∈ wsX6_most := by decide +kernel
set_option maxHeartbeats 8000000 in
set_option maxRecDepth 100000 in
theorem cn_X6_most (l : Launch) (G : mG) (qy : Nat) (qyn : Nat) (qyt : Nat) (qyu : Nat) (qyf : Nat) (qyr : Nat) (qyb : Nat) (qyk : Nat) (qyi : Nat) (qyx : Nat) (yn : Nat → Int32) (yt : Nat → Int32) (yu : Nat → Int32) (yf : Nat → Int32) (yr : Nat → Int32) (yb : Nat → Int32) (yk : Nat → Int32) (yi : Nat → Int32) (yx : Nat → Int32) (za : Int32) (zs : Int32) (zl : Int32) (zt : Int32) (zg : Int32) (zr : Int32) (zm : Int32) {Q : Int32 → (Nat → Int32) → (Nat → Int32) → Prop} (hw : wn_X6_most yn yu yf Q) (sz : Nat) :
    Met l yX6_most wsX6_most ({ frames := 3, cells := 0, slots := 0, locals := 71 } : Room) (va_Pc [.ref qy] (mPre G (w0_X6_most G qy qyn qyt qyu qyf qyr qyb qyk qyi qyx yn yt yu yf yr yb yk yi yx za zs zl zt zg zr zm) sz)) (va_Qi (fun (r : Int32) (u : (Nat → Int32) × (Nat → Int32)) => Q r u.1 u.2) (mBk G (va_A (w0_X6_most G qy qyn qyt qyu qyf qyr qyb qyk qyi qyx yn yt yu yf yr yb yk yi yx za zs zl zt zg zr zm) sz) (fun (u : (Nat → Int32) × (Nat → Int32)) => (w0_X6_most G qy qyn qyt qyu qyf qyr qyb qyk qyi qyx yn yt u.1 u.2 yr yb yk yi yx za zs zl zt zg zr zm))) (va_A (w0_X6_most G qy qyn qyt qyu qyf qyr qyb qyk qyi qyx yn yt yu yf yr yb yk yi yx za zs zl zt zg zr zm) sz)) 0 0 (va_A (w0_X6_most G qy qyn qyt qyu qyf qyr qyb qyk qyi qyx yn yt yu yf yr yb yk yi yx za zs zl zt zg zr zm) sz) := by
  refine ms_i (cc := cX6_most) (maxL := 5) (ret := some .int) (post := (fun (r : Int32) (u : (Nat → Int32) × (Nat → Int32)) => Q r u.1 u.2)) (w1 := (fun (u : (Nat → Int32) × (Nat → Int32)) => (w0_X6_most G qy qyn qyt qyu qyf qyr qyb qyk qyi qyx yn yt u.1 u.2 yr yb yk yi yx za zs zl zt zg zr zm))) (by decide) rfl (Nat.le_of_ble_eq_true rfl) ?_ sz
  intro p e s m below meth c A ls H locs hx hb hr hml hown hts hlocks hK hG hP hD hS hA hl
  have hown : s.vm.findClass RX6 = some m.cls := hown
  have hl : lv_has ls 5 [(0, .ref qy)] := hl
  have J32 : ∀ (k9 : (Nat → Int32) → (Nat → Int32) → Int32 → Int32 → Int32 → Prop) (hk9 : ∀ (yu : Nat → Int32) (yf : Nat → Int32) (x1 : Int32) (x2 : Int32) (x3 : Int32) (H : Heap) (locs : List Loc) (ls : Array Slot), va_P (gD G) vwCl (w0_X6_most G qy qyn qyt qyu qyf qyr qyb qyk qyi qyx yn yt yu yf yr yb yk yi yx za zs zl zt zg zr zm) H → va_D A (w0_X6_most G qy qyn qyt qyu qyf qyr qyb qyk qyi qyx yn yt yu yf yr yb yk yi yx za zs zl zt zg zr zm) → va_S A s.heap H locs → lv_has ls 5 [(0, .ref qy), (1, .int x1), (2, .int x2), (3, .int x3)] → k9 yu yf x1 x2 x3 → W p l e ({ frames := 3, cells := 0, slots := 0, locals := 71 } : Room) s m ([.ref qy] : List Value).toArray below meth c H locs 0 0 (MQ below (va_Qi (fun (r : Int32) (u : (Nat → Int32) × (Nat → Int32)) => Q r u.1 u.2) (mBk G A (fun (u : (Nat → Int32) × (Nat → Int32)) => (w0_X6_most G qy qyn qyt qyu qyf qyr qyb qyk qyi qyx yn yt u.1 u.2 yr yb yk yi yx za zs zl zt zg zr zm))) A) ([.ref qy] : List Value).toArray s 0 0 A) (F0 m 9 ls [])) (yu : Nat → Int32) (yf : Nat → Int32) (x1 : Int32) (x2 : Int32) (x3 : Int32) (y0 : Int32) (H : Heap) (locs : List Loc) (ls : Array Slot), va_P (gD G) vwCl (w0_X6_most G qy qyn qyt qyu qyf qyr qyb qyk qyi qyx yn yt yu yf yr yb yk yi yx za zs zl zt zg zr zm) H → va_D A (w0_X6_most G qy qyn qyt qyu qyf qyr qyb qyk qyi qyx yn yt yu yf yr yb yk yi yx za zs zl zt zg zr zm) → va_S A s.heap H locs → lv_has ls 5 [(0, .ref qy), (1, .int x1), (2, .int x2), (3, .int x3)] → wj_n_X6_most_32 yn Q k9 yu yf x1 x2 x3 y0 → W p l e ({ frames := 3, cells := 0, slots := 0, locals := 71 } : Room) s m ([.ref qy] : List Value).toArray below meth c H locs 0 0 (MQ below (va_Qi (fun (r : Int32) (u : (Nat → Int32) × (Nat → Int32)) => Q r u.1 u.2) (mBk G A (fun (u : (Nat → Int32) × (Nat → Int32)) => (w0_X6_most G qy qyn qyt qyu qyf qyr qyb qyk qyi qyx yn yt u.1 u.2 yr yb yk yi yx za zs zl zt zg zr zm))) A) ([.ref qy] : List Value).toArray s 0 0 A) (F0 m 32 ls [.int y0]) := by
    intro k9 hk9 yu yf x1 x2 x3 y0 H locs ls hP hD hS hl hw
    unfold wj_n_X6_most_32 at hw
    refine lv_istore (lv' := [(4, .int y0), (0, .ref qy), (1, .int x1), (2, .int x2), (3, .int x3)]) hx hb dX6_most_32 hl (by decide) rfl (fun ls hl => ?_)
    refine lv_iload hx hb dX6_most_34 (lv_at hl 0 rfl) ?_
    refine lv_iload_n hx hb dX6_most_36 rfl (lv_at hl 3 rfl) ?_
    refine lv_icmp_le (tgt := 45) hx hb dX6_most_37 (by decide) (fun cd8 => ?_) (fun cd8 => ?_)
    · have hw := hw.1 cd8
      refine lv_iload_n hx hb dX6_most_45 rfl (lv_at hl 3 rfl) ?_
      refine lv_istore_n (lv' := [(2, .int x2), (4, .int y0), (0, .ref qy), (1, .int x1), (3, .int x3)]) hx hb dX6_most_46 rfl hl (by decide) rfl (fun ls hl => ?_)
      refine lv_iinc (v := (x3 + 1)) (lv' := [(3, .int (x3 + 1)), (2, .int x2), (4, .int y0), (0, .ref qy), (1, .int x1)]) hx hb dX6_most_47 hl (k := 4) rfl rfl (by decide) rfl (fun ls hl => ?_)
      refine lv_goto (tgt := 9) hx hb dX6_most_50 (by decide) ?_
      exact hk9 yu yf x1 x2 (x3 + 1) _ _ _ hP hD hS (lv_sub hl [3, 4, 1, 0] rfl) hw
    · have hw := hw.2 cd8
      refine lv_iload hx hb dX6_most_40 (lv_at hl 0 rfl) ?_
      refine lv_goto (tgt := 46) hx hb dX6_most_42 (by decide) ?_
      refine lv_istore_n (lv' := [(2, .int y0), (4, .int y0), (0, .ref qy), (1, .int x1), (3, .int x3)]) hx hb dX6_most_46 rfl hl (by decide) rfl (fun ls hl => ?_)
      refine lv_iinc (v := (x3 + 1)) (lv' := [(3, .int (x3 + 1)), (2, .int y0), (4, .int y0), (0, .ref qy), (1, .int x1)]) hx hb dX6_most_47 hl (k := 4) rfl rfl (by decide) rfl (fun ls hl => ?_)
      refine lv_goto (tgt := 9) hx hb dX6_most_50 (by decide) ?_
      exact hk9 yu yf x1 y0 (x3 + 1) _ _ _ hP hD hS (lv_sub hl [3, 4, 1, 0] rfl) hw
  have J9 : ∀ (n : Nat) (yu : Nat → Int32) (yf : Nat → Int32) (x1 : Int32) (x2 : Int32) (x3 : Int32) (H : Heap) (locs : List Loc) (ls : Array Slot), va_P (gD G) vwCl (w0_X6_most G qy qyn qyt qyu qyf qyr qyb qyk qyi qyx yn yt yu yf yr yb yk yi yx za zs zl zt zg zr zm) H → va_D A (w0_X6_most G qy qyn qyt qyu qyf qyr qyb qyk qyi qyx yn yt yu yf yr yb yk yi yx za zs zl zt zg zr zm) → va_S A s.heap H locs → lv_has ls 5 [(0, .ref qy), (1, .int x1), (2, .int x2), (3, .int x3)] → wl_n_X6_most_9 yn Q n yu yf x1 x2 x3 → W p l e ({ frames := 3, cells := 0, slots := 0, locals := 71 } : Room) s m ([.ref qy] : List Value).toArray below meth c H locs 0 0 (MQ below (va_Qi (fun (r : Int32) (u : (Nat → Int32) × (Nat → Int32)) => Q r u.1 u.2) (mBk G A (fun (u : (Nat → Int32) × (Nat → Int32)) => (w0_X6_most G qy qyn qyt qyu qyf qyr qyb qyk qyi qyx yn yt u.1 u.2 yr yb yk yi yx za zs zl zt zg zr zm))) A) ([.ref qy] : List Value).toArray s 0 0 A) (F0 m 9 ls []) := by
    intro n
    induction n with
    | zero => intro yu yf x1 x2 x3 H locs ls hP hD hS hl hw; exact False.elim hw
    | succ n ih =>
      intro yu yf x1 x2 x3 H locs ls hP hD hS hl hw
      rw [wl_n_X6_most_9] at hw
      refine lv_iload_n hx hb dX6_most_9 rfl (lv_at hl 3 rfl) ?_
      refine lv_iload_n hx hb dX6_most_10 rfl (lv_at hl 1 rfl) ?_
      refine lv_icmp_ge (tgt := 53) hx hb dX6_most_11 (by decide) (fun cd4 => ?_) (fun cd4 => ?_)
      · have hw := hw.1 cd4
        refine lv_iload_n hx hb dX6_most_53 rfl (lv_at hl 2 rfl) ?_
        exact fin_i (yu, yf) hx hb hr hlocks hK hS hP hD hw dX6_most_54
      · have hw := hw.2 cd4
        refine lv_aload_n hx hb dX6_most_14 rfl (lv_at hl 0 rfl) ?_
        refine va_get (D := gD G) (ci := 6) (v := .ref qyu) (C := RX6) (T := TX6) (N := 16) hx hb hts k_X6_most_inX6 hown hK hP 0 rfl rfl 3 (by decide) (hts _ k_X6_most_f16) (fun _ h9 => h9) rfl dX6_most_15 ?_
        refine lv_iload_n hx hb dX6_most_18 rfl (lv_at hl 3 rfl) ?_
        obtain ⟨h5, hw⟩ := hw
        refine va_iald hx hb hK hP 3 0 rfl rfl h5 dX6_most_19 ?_
        refine lv_iconst (v := -1) hx hb dX6_most_20 (by decide) ?_
        refine lv_icmp_ne (tgt := 28) hx hb dX6_most_21 (by decide) (fun cd6 => ?_) (fun cd6 => ?_)
        · have hw := hw.1 cd6
          refine lv_iload_n hx hb dX6_most_28 rfl (lv_at hl 3 rfl) ?_
          refine kcR_i (kr_S [] ⟨hx, hb, hml, hown, hts⟩ (cn_X6_bits l G x3 hw H.size) (va_cwS 1 hts gX6_most_X6_bits rfl rfl rfl (by decide +kernel) ⟨Nat.le_of_ble_eq_true rfl, Nat.le_of_ble_eq_true rfl⟩) hK hG hP hD hS hA [] rfl rfl rfl hl.1 rfl (Nat.le_of_ble_eq_true rfl) dX6_most_29 ⟨Nat.le_of_ble_eq_true rfl, Nat.le_of_ble_eq_true rfl⟩) hP hD hS hA [] rfl (fun r7 u H locs hw hP hS => ?_)
          try dsimp only at hw
          exact J32 (fun (z0 : Nat → Int32) (z1 : Nat → Int32) (z2 : Int32) (z3 : Int32) (z4 : Int32) => wl_n_X6_most_9 yn Q n z0 z1 z2 z3 z4) ih yu yf x1 x2 x3 r7 _ _ _ hP hD hS hl hw
        · have hw := hw.2 cd6
          refine lv_iconst (v := 0) hx hb dX6_most_24 (by decide) ?_
          refine lv_goto (tgt := 32) hx hb dX6_most_25 (by decide) ?_
          exact J32 (fun (z0 : Nat → Int32) (z1 : Nat → Int32) (z2 : Int32) (z3 : Int32) (z4 : Int32) => wl_n_X6_most_9 yn Q n z0 z1 z2 z3 z4) ih yu yf x1 x2 x3 (0 : Int32) _ _ _ hP hD hS hl hw
  unfold wn_X6_most at hw
  refine lv_aload_n hx hb dX6_most_0 rfl (lv_at hl 0 rfl) ?_
  refine kc_i (kr_V [] ⟨hx, hb, hml, hown, hts⟩ (cn_X6_fill l G qy qyn qyt qyu qyf qyr qyb qyk qyi qyx yn yt yu yf yr yb yk yi yx za zs zl zt zg zr zm hw H.size) (cwV 0 hts gX6_most_X6_fill rfl rfl rfl (by decide +kernel) ⟨Nat.le_of_ble_eq_true rfl, Nat.le_of_ble_eq_true rfl⟩) hK hG hP hD hS hA [0, 1, 2, 3, 4, 5, 6, 7, 8, 9] rfl rfl 6 0 rfl rfl rfl hl.1 rfl (Nat.le_of_ble_eq_true rfl) dX6_most_1 ⟨Nat.le_of_ble_eq_true rfl, Nat.le_of_ble_eq_true rfl⟩) hP hD hS hA [0, 1, 2, 3, 4, 5, 6, 7, 8, 9] [] rfl rfl rfl (by decide) (fun r1 u H locs hw hP hD hS => ?_)
  obtain ⟨yu_2, yf_3⟩ := u
  try dsimp only at hw
  have hP := hP.sub (ws' := (w0_X6_most G qy qyn qyt qyu qyf qyr qyb qyk qyi qyx yn yt yu_2 yf_3 yr yb yk yi yx za zs zl zt zg zr zm)) [0, 1, 2, 3, 4, 5, 6, 7, 8, 9] rfl
  have hD := hD.sub (ws' := (w0_X6_most G qy qyn qyt qyu qyf qyr qyb qyk qyi qyx yn yt yu_2 yf_3 yr yb yk yi yx za zs zl zt zg zr zm)) [0, 1, 2, 3, 4, 5, 6, 7, 8, 9] rfl rfl
  refine lv_istore_n (lv' := [(1, .int r1), (0, .ref qy)]) hx hb dX6_most_4 rfl hl (by decide) rfl (fun ls hl => ?_)
  refine lv_iconst (v := 0) hx hb dX6_most_5 (by decide) ?_
  refine lv_istore_n (lv' := [(2, .int (0 : Int32)), (1, .int r1), (0, .ref qy)]) hx hb dX6_most_6 rfl hl (by decide) rfl (fun ls hl => ?_)
  refine lv_iconst (v := 0) hx hb dX6_most_7 (by decide) ?_
  refine lv_istore_n (lv' := [(3, .int (0 : Int32)), (2, .int (0 : Int32)), (1, .int r1), (0, .ref qy)]) hx hb dX6_most_8 rfl hl (by decide) rfl (fun ls hl => ?_)
  obtain ⟨n9, hw⟩ := hw
  exact J9 n9 yu_2 yf_3 r1 (0 : Int32) (0 : Int32) _ _ _ hP hD hS (lv_sub hl [3, 2, 1, 0] rfl) hw

abbrev w0_X6_fameOfBooked (G : mG) (qy : Nat) (qyn : Nat) (qyt : Nat) (qyu : Nat) (qyf : Nat) (qyr : Nat) (qyb : Nat) (qyk : Nat) (qyi : Nat) (qyx : Nat) (yn : Nat → Int32) (yt : Nat → Int32) (yu : Nat → Int32) (yf : Nat → Int32) (yr : Nat → Int32) (yb : Nat → Int32) (yk : Nat → Int32) (yi : Nat → Int32) (yx : Nat → Int32) (za : Int32) (zs : Int32) (zl : Int32) (zt : Int32) (zg : Int32) (zr : Int32) (zm : Int32) : va_W := [(qy, .inr (6, [.int za, .ref qyn, .ref qyt, .ref qyu, .ref qyf, .ref qyr, .ref qyb, .int zs, .ref qyk, .ref qyi, .ref qyx, .int zl, .int zt, .int zg, .int zr, .int zm])), (qyn, .inl (gI G, (45, .inl yn))), (qyt, .inl (gI G, (45, .inl yt))), (qyu, .inl (gI G, (16384, .inl yu))), (qyf, .inl (gI G, (14, .inl yf))), (qyr, .inl (gI G, (14, .inl yr))), (qyb, .inl (gI G, (270, .inl yb))), (qyk, .inl (gI G, (90, .inl yk))), (qyi, .inl (gZ G, (2, .inl yi))), (qyx, .inl (gI G, (60, .inl yx)))]
set_option maxRecDepth 100000 in
theorem k_X6_fameOfBooked_inX6 : ∀ w ∈ u_ws RX6 TX6 16, w ∈ wsX6_fameOfBooked := by decide +kernel
set_option maxRecDepth 100000 in
theorem k_X6_fameOfBooked_f7 : Cond.fieldLink RX6 7 "RehearsalRoomModel" "now" "[I" ∈ wsX6_fameOfBooked := by decide +kernel
set_option maxHeartbeats 8000000 in
set_option maxRecDepth 100000 in
theorem cn_X6_fameOfBooked (l : Launch) (G : mG) (qy : Nat) (qyn : Nat) (qyt : Nat) (qyu : Nat) (qyf : Nat) (qyr : Nat) (qyb : Nat) (qyk : Nat) (qyi : Nat) (qyx : Nat) (yn : Nat → Int32) (yt : Nat → Int32) (yu : Nat → Int32) (yf : Nat → Int32) (yr : Nat → Int32) (yb : Nat → Int32) (yk : Nat → Int32) (yi : Nat → Int32) (yx : Nat → Int32) (za : Int32) (zs : Int32) (zl : Int32) (zt : Int32) (zg : Int32) (zr : Int32) (zm : Int32) {Q : Int32 → Prop} (hw : wn_X6_fameOfBooked yn Q) (sz : Nat) :
    Met l yX6_fameOfBooked wsX6_fameOfBooked ({ frames := 0, cells := 0, slots := 0, locals := 0 } : Room) (va_Pc [.ref qy] (mPre G (w0_X6_fameOfBooked G qy qyn qyt qyu qyf qyr qyb qyk qyi qyx yn yt yu yf yr yb yk yi yx za zs zl zt zg zr zm) sz)) (va_Qi (fun (r : Int32) (u : Unit) => Q r) (mBk G (va_A (w0_X6_fameOfBooked G qy qyn qyt qyu qyf qyr qyb qyk qyi qyx yn yt yu yf yr yb yk yi yx za zs zl zt zg zr zm) sz) (fun (u : Unit) => (w0_X6_fameOfBooked G qy qyn qyt qyu qyf qyr qyb qyk qyi qyx yn yt yu yf yr yb yk yi yx za zs zl zt zg zr zm))) (va_A (w0_X6_fameOfBooked G qy qyn qyt qyu qyf qyr qyb qyk qyi qyx yn yt yu yf yr yb yk yi yx za zs zl zt zg zr zm) sz)) 0 0 (va_A (w0_X6_fameOfBooked G qy qyn qyt qyu qyf qyr qyb qyk qyi qyx yn yt yu yf yr yb yk yi yx za zs zl zt zg zr zm) sz) := by
  refine ms_i (cc := cX6_fameOfBooked) (maxL := 3) (ret := some .int) (post := (fun (r : Int32) (u : Unit) => Q r)) (w1 := (fun (u : Unit) => (w0_X6_fameOfBooked G qy qyn qyt qyu qyf qyr qyb qyk qyi qyx yn yt yu yf yr yb yk yi yx za zs zl zt zg zr zm))) (by decide) rfl (Nat.le_of_ble_eq_true rfl) ?_ sz
  intro p e s m below meth c A ls H locs hx hb hr hml hown hts hlocks hK hG hP hD hS hA hl
  have hown : s.vm.findClass RX6 = some m.cls := hown
  have hl : lv_has ls 3 [(0, .ref qy)] := hl
  have J4 : ∀ (n : Nat) (x1 : Int32) (x2 : Int32) (H : Heap) (locs : List Loc) (ls : Array Slot), va_P (gD G) vwCl (w0_X6_fameOfBooked G qy qyn qyt qyu qyf qyr qyb qyk qyi qyx yn yt yu yf yr yb yk yi yx za zs zl zt zg zr zm) H → va_D A (w0_X6_fameOfBooked G qy qyn qyt qyu qyf qyr qyb qyk qyi qyx yn yt yu yf yr yb yk yi yx za zs zl zt zg zr zm) → va_S A s.heap H locs → lv_has ls 3 [(0, .ref qy), (1, .int x1), (2, .int x2)] → wl_n_X6_fameOfBooked_4 yn Q n x1 x2 → W p l e ({ frames := 0, cells := 0, slots := 0, locals := 0 } : Room) s m ([.ref qy] : List Value).toArray below meth c H locs 0 0 (MQ below (va_Qi (fun (r : Int32) (u : Unit) => Q r) (mBk G A (fun (u : Unit) => (w0_X6_fameOfBooked G qy qyn qyt qyu qyf qyr qyb qyk qyi qyx yn yt yu yf yr yb yk yi yx za zs zl zt zg zr zm))) A) ([.ref qy] : List Value).toArray s 0 0 A) (F0 m 4 ls []) := by
    intro n
    induction n with
    | zero => intro x1 x2 H locs ls hP hD hS hl hw; exact False.elim hw
    | succ n ih =>
      intro x1 x2 H locs ls hP hD hS hl hw
      rw [wl_n_X6_fameOfBooked_4] at hw
      refine lv_iload_n hx hb dX6_fameOfBooked_4 rfl (lv_at hl 2 rfl) ?_
      refine lv_aload_n hx hb dX6_fameOfBooked_5 rfl (lv_at hl 0 rfl) ?_
      refine va_get (D := gD G) (ci := 6) (v := .ref qyn) (C := RX6) (T := TX6) (N := 16) hx hb hts k_X6_fameOfBooked_inX6 hown hK hP 0 rfl rfl 1 (by decide) (hts _ k_X6_fameOfBooked_f7) (fun _ h9 => h9) rfl dX6_fameOfBooked_6 ?_
      refine lv_bipush (v := 44) hx hb dX6_fameOfBooked_9 (by decide) ?_
      obtain ⟨h1, hw⟩ := hw
      refine va_iald hx hb hK hP 1 0 rfl rfl h1 dX6_fameOfBooked_11 ?_
      refine lv_icmp_ge (tgt := 52) hx hb dX6_fameOfBooked_12 (by decide) (fun cd2 => ?_) (fun cd2 => ?_)
      · have hw := hw.1 cd2
        refine lv_iload_n hx hb dX6_fameOfBooked_52 rfl (lv_at hl 1 rfl) ?_
        exact fin_i () hx hb hr hlocks hK hS hP hD hw dX6_fameOfBooked_53
      · have hw := hw.2 cd2
        refine lv_iload_n hx hb dX6_fameOfBooked_15 rfl (lv_at hl 1 rfl) ?_
        refine lv_aload_n hx hb dX6_fameOfBooked_16 rfl (lv_at hl 0 rfl) ?_
        refine va_get (D := gD G) (ci := 6) (v := .ref qyn) (C := RX6) (T := TX6) (N := 16) hx hb hts k_X6_fameOfBooked_inX6 hown hK hP 0 rfl rfl 1 (by decide) (hts _ k_X6_fameOfBooked_f7) (fun _ h9 => h9) rfl dX6_fameOfBooked_17 ?_
        refine lv_bipush (v := 42) hx hb dX6_fameOfBooked_20 (by decide) ?_
        obtain ⟨h3, hw⟩ := hw
        refine va_iald hx hb hK hP 1 0 rfl rfl h3 dX6_fameOfBooked_22 ?_
        refine lv_iload_n hx hb dX6_fameOfBooked_23 rfl (lv_at hl 2 rfl) ?_
        refine lv_ishr hx hb dX6_fameOfBooked_24 ?_
        refine lv_iconst (v := 1) hx hb dX6_fameOfBooked_25 (by decide) ?_
        refine lv_iand hx hb dX6_fameOfBooked_26 ?_
        refine lv_iconst (v := 1) hx hb dX6_fameOfBooked_27 (by decide) ?_
        refine lv_icmp_ne (tgt := 43) hx hb dX6_fameOfBooked_28 (by decide) (fun cd4 => ?_) (fun cd4 => ?_)
        · have hw := hw.1 cd4
          refine lv_iconst (v := 0) hx hb dX6_fameOfBooked_43 (by decide) ?_
          refine lv_iadd hx hb dX6_fameOfBooked_44 ?_
          refine lv_istore_n (lv' := [(1, .int (x1 + (0 : Int32))), (0, .ref qy), (2, .int x2)]) hx hb dX6_fameOfBooked_45 rfl hl (by decide) rfl (fun ls hl => ?_)
          refine lv_iinc (v := (x2 + 1)) (lv' := [(2, .int (x2 + 1)), (1, .int (x1 + (0 : Int32))), (0, .ref qy)]) hx hb dX6_fameOfBooked_46 hl (k := 2) rfl rfl (by decide) rfl (fun ls hl => ?_)
          refine lv_goto (tgt := 4) hx hb dX6_fameOfBooked_49 (by decide) ?_
          exact ih (x1 + (0 : Int32)) (x2 + 1) _ _ _ hP hD hS (lv_sub hl [2, 1, 0] rfl) hw
        · have hw := hw.2 cd4
          refine lv_aload_n hx hb dX6_fameOfBooked_31 rfl (lv_at hl 0 rfl) ?_
          refine va_get (D := gD G) (ci := 6) (v := .ref qyn) (C := RX6) (T := TX6) (N := 16) hx hb hts k_X6_fameOfBooked_inX6 hown hK hP 0 rfl rfl 1 (by decide) (hts _ k_X6_fameOfBooked_f7) (fun _ h9 => h9) rfl dX6_fameOfBooked_32 ?_
          refine lv_bipush (v := 28) hx hb dX6_fameOfBooked_35 (by decide) ?_
          refine lv_iload_n hx hb dX6_fameOfBooked_37 rfl (lv_at hl 2 rfl) ?_
          refine lv_iadd hx hb dX6_fameOfBooked_38 ?_
          obtain ⟨h5, hw⟩ := hw
          refine va_iald hx hb hK hP 1 0 rfl rfl h5 dX6_fameOfBooked_39 ?_
          refine lv_goto (tgt := 44) hx hb dX6_fameOfBooked_40 (by decide) ?_
          refine lv_iadd hx hb dX6_fameOfBooked_44 ?_
          refine lv_istore_n (lv' := [(1, .int (x1 + (yn ((28 : Int32) + x2).toNatClampNeg))), (0, .ref qy), (2, .int x2)]) hx hb dX6_fameOfBooked_45 rfl hl (by decide) rfl (fun ls hl => ?_)
          refine lv_iinc (v := (x2 + 1)) (lv' := [(2, .int (x2 + 1)), (1, .int (x1 + (yn ((28 : Int32) + x2).toNatClampNeg))), (0, .ref qy)]) hx hb dX6_fameOfBooked_46 hl (k := 2) rfl rfl (by decide) rfl (fun ls hl => ?_)
          refine lv_goto (tgt := 4) hx hb dX6_fameOfBooked_49 (by decide) ?_
          exact ih (x1 + (yn ((28 : Int32) + x2).toNatClampNeg)) (x2 + 1) _ _ _ hP hD hS (lv_sub hl [2, 1, 0] rfl) hw
  unfold wn_X6_fameOfBooked at hw
  refine lv_iconst (v := 0) hx hb dX6_fameOfBooked_0 (by decide) ?_
  refine lv_istore_n (lv' := [(1, .int (0 : Int32)), (0, .ref qy)]) hx hb dX6_fameOfBooked_1 rfl hl (by decide) rfl (fun ls hl => ?_)
  refine lv_iconst (v := 0) hx hb dX6_fameOfBooked_2 (by decide) ?_
  refine lv_istore_n (lv' := [(2, .int (0 : Int32)), (1, .int (0 : Int32)), (0, .ref qy)]) hx hb dX6_fameOfBooked_3 rfl hl (by decide) rfl (fun ls hl => ?_)
  obtain ⟨n4, hw⟩ := hw
  exact J4 n4 (0 : Int32) (0 : Int32) _ _ _ hP hD hS (lv_sub hl [2, 1, 0] rfl) hw

abbrev w0_X6_save (G : mG) (qy : Nat) (qyn : Nat) (qyt : Nat) (qyu : Nat) (qyf : Nat) (qyr : Nat) (qyb : Nat) (qyk : Nat) (qyi : Nat) (qyx : Nat) (yn : Nat → Int32) (yt : Nat → Int32) (yu : Nat → Int32) (yf : Nat → Int32) (yr : Nat → Int32) (yb : Nat → Int32) (yk : Nat → Int32) (yi : Nat → Int32) (yx : Nat → Int32) (za : Int32) (zs : Int32) (zl : Int32) (zt : Int32) (zg : Int32) (zr : Int32) (zm : Int32) : va_W := [(qy, .inr (6, [.int za, .ref qyn, .ref qyt, .ref qyu, .ref qyf, .ref qyr, .ref qyb, .int zs, .ref qyk, .ref qyi, .ref qyx, .int zl, .int zt, .int zg, .int zr, .int zm])), (qyn, .inl (gI G, (45, .inl yn))), (qyt, .inl (gI G, (45, .inl yt))), (qyu, .inl (gI G, (16384, .inl yu))), (qyf, .inl (gI G, (14, .inl yf))), (qyr, .inl (gI G, (14, .inl yr))), (qyb, .inl (gI G, (270, .inl yb))), (qyk, .inl (gI G, (90, .inl yk))), (qyi, .inl (gZ G, (2, .inl yi))), (qyx, .inl (gI G, (60, .inl yx)))]
set_option maxRecDepth 100000 in
theorem k_X6_save_inX6 : ∀ w ∈ u_ws RX6 TX6 16, w ∈ wsX6_save := by decide +kernel
set_option maxRecDepth 100000 in
theorem k_X6_save_f70 : Cond.fieldLink RX6 70 "RehearsalRoomModel" "states" "I" ∈ wsX6_save := by decide +kernel
set_option maxRecDepth 100000 in
theorem k_X6_save_f25 : Cond.fieldLink RX6 25 "RehearsalRoomModel" "book" "[I" ∈ wsX6_save := by decide +kernel
set_option maxRecDepth 100000 in
theorem k_X6_save_f7 : Cond.fieldLink RX6 7 "RehearsalRoomModel" "now" "[I" ∈ wsX6_save := by decide +kernel
set_option maxHeartbeats 8000000 in
set_option maxRecDepth 100000 in
theorem cn_X6_save (l : Launch) (G : mG) (qy : Nat) (qyn : Nat) (qyt : Nat) (qyu : Nat) (qyf : Nat) (qyr : Nat) (qyb : Nat) (qyk : Nat) (qyi : Nat) (qyx : Nat) (yn : Nat → Int32) (yt : Nat → Int32) (yu : Nat → Int32) (yf : Nat → Int32) (yr : Nat → Int32) (yb : Nat → Int32) (yk : Nat → Int32) (yi : Nat → Int32) (yx : Nat → Int32) (za : Int32) (zs : Int32) (zl : Int32) (zt : Int32) (zg : Int32) (zr : Int32) (zm : Int32) {Q : (Nat → Int32) → Int32 → Prop} (hw : wn_X6_save yn yb zs Q) (sz : Nat) :
    Met l yX6_save wsX6_save ({ frames := 0, cells := 0, slots := 0, locals := 0 } : Room) (va_Pc [.ref qy] (mPre G (w0_X6_save G qy qyn qyt qyu qyf qyr qyb qyk qyi qyx yn yt yu yf yr yb yk yi yx za zs zl zt zg zr zm) sz)) (va_Qv (fun (u : (Nat → Int32) × Int32) => Q u.1 u.2) (mBk G (va_A (w0_X6_save G qy qyn qyt qyu qyf qyr qyb qyk qyi qyx yn yt yu yf yr yb yk yi yx za zs zl zt zg zr zm) sz) (fun (u : (Nat → Int32) × Int32) => (w0_X6_save G qy qyn qyt qyu qyf qyr qyb qyk qyi qyx yn yt yu yf yr u.1 yk yi yx za u.2 zl zt zg zr zm))) (va_A (w0_X6_save G qy qyn qyt qyu qyf qyr qyb qyk qyi qyx yn yt yu yf yr yb yk yi yx za zs zl zt zg zr zm) sz)) 0 0 (va_A (w0_X6_save G qy qyn qyt qyu qyf qyr qyb qyk qyi qyx yn yt yu yf yr yb yk yi yx za zs zl zt zg zr zm) sz) := by
  refine ms_v (cc := cX6_save) (maxL := 2) (ret := none) (post := (fun (u : (Nat → Int32) × Int32) => Q u.1 u.2)) (w1 := (fun (u : (Nat → Int32) × Int32) => (w0_X6_save G qy qyn qyt qyu qyf qyr qyb qyk qyi qyx yn yt yu yf yr u.1 yk yi yx za u.2 zl zt zg zr zm))) (by decide) rfl (Nat.le_of_ble_eq_true rfl) ?_ sz
  intro p e s m below meth c A ls H locs hx hb hr hml hown hts hlocks hK hG hP hD hS hA hl
  have hown : s.vm.findClass RX6 = some m.cls := hown
  have hl : lv_has ls 2 [(0, .ref qy)] := hl
  have J51 : ∀ (n : Nat) (yb : Nat → Int32) (zs : Int32) (x1 : Int32) (H : Heap) (locs : List Loc) (ls : Array Slot), va_P (gD G) vwCl (w0_X6_save G qy qyn qyt qyu qyf qyr qyb qyk qyi qyx yn yt yu yf yr yb yk yi yx za zs zl zt zg zr zm) H → va_D A (w0_X6_save G qy qyn qyt qyu qyf qyr qyb qyk qyi qyx yn yt yu yf yr yb yk yi yx za zs zl zt zg zr zm) → va_S A s.heap H locs → lv_has ls 2 [(0, .ref qy), (1, .int x1)] → wl_n_X6_save_51 yn Q n yb zs x1 → W p l e ({ frames := 0, cells := 0, slots := 0, locals := 0 } : Room) s m ([.ref qy] : List Value).toArray below meth c H locs 0 0 (MQ below (va_Qv (fun (u : (Nat → Int32) × Int32) => Q u.1 u.2) (mBk G A (fun (u : (Nat → Int32) × Int32) => (w0_X6_save G qy qyn qyt qyu qyf qyr qyb qyk qyi qyx yn yt yu yf yr u.1 yk yi yx za u.2 zl zt zg zr zm))) A) ([.ref qy] : List Value).toArray s 0 0 A) (F0 m 51 ls []) := by
    intro n
    induction n with
    | zero => intro yb zs x1 H locs ls hP hD hS hl hw; exact False.elim hw
    | succ n ih =>
      intro yb zs x1 H locs ls hP hD hS hl hw
      rw [wl_n_X6_save_51] at hw
      refine lv_iload_n hx hb dX6_save_51 rfl (lv_at hl 1 rfl) ?_
      refine lv_bipush (v := 45) hx hb dX6_save_52 (by decide) ?_
      refine lv_icmp_ge (tgt := 83) hx hb dX6_save_54 (by decide) (fun cd2 => ?_) (fun cd2 => ?_)
      · have hw := hw.1 cd2
        refine lv_aload_n hx hb dX6_save_83 rfl (lv_at hl 0 rfl) ?_
        refine lv_dup hx hb dX6_save_84 rfl ?_
        refine va_get (D := gD G) (ci := 6) (v := .int zs) (C := RX6) (T := TX6) (N := 16) hx hb hts k_X6_save_inX6 hown hK hP 0 rfl rfl 7 (by decide) (hts _ k_X6_save_f70) (fun _ h9 => h9) rfl dX6_save_85 ?_
        refine lv_iconst (v := 1) hx hb dX6_save_88 (by decide) ?_
        refine lv_iadd hx hb dX6_save_89 ?_
        refine va_put (D := gD G) (ci := 6) (v := .int (zs + (1 : Int32))) (ty := .int) (C := RX6) (T := TX6) (N := 16) hx hb hts k_X6_save_inX6 tyX6 tyX6_ok nmX6 hown hK hP hD hS 0 rfl rfl 7 (by decide) (hts _ k_X6_save_f70) (fun _ h9 => h9) rfl (by decide +kernel) rfl rfl (Nat.le_of_ble_eq_true rfl) dX6_save_90 (fun H locs hP hD hS => ?_)
        have hP : va_P (gD G) vwCl (w0_X6_save G qy qyn qyt qyu qyf qyr qyb qyk qyi qyx yn yt yu yf yr yb yk yi yx za (zs + (1 : Int32)) zl zt zg zr zm) H := hP
        have hD : va_D A (w0_X6_save G qy qyn qyt qyu qyf qyr qyb qyk qyi qyx yn yt yu yf yr yb yk yi yx za (zs + (1 : Int32)) zl zt zg zr zm) := hD
        exact fin_v (yb, (zs + (1 : Int32))) hx hb hr hlocks hK hS hP hD hw dX6_save_93
      · have hw := hw.2 cd2
        refine lv_aload_n hx hb dX6_save_57 rfl (lv_at hl 0 rfl) ?_
        refine va_get (D := gD G) (ci := 6) (v := .ref qyb) (C := RX6) (T := TX6) (N := 16) hx hb hts k_X6_save_inX6 hown hK hP 0 rfl rfl 6 (by decide) (hts _ k_X6_save_f25) (fun _ h9 => h9) rfl dX6_save_58 ?_
        refine lv_bipush (v := 45) hx hb dX6_save_61 (by decide) ?_
        refine lv_aload_n hx hb dX6_save_63 rfl (lv_at hl 0 rfl) ?_
        refine va_get (D := gD G) (ci := 6) (v := .int zs) (C := RX6) (T := TX6) (N := 16) hx hb hts k_X6_save_inX6 hown hK hP 0 rfl rfl 7 (by decide) (hts _ k_X6_save_f70) (fun _ h9 => h9) rfl dX6_save_64 ?_
        refine lv_imul hx hb dX6_save_67 ?_
        refine lv_iload_n hx hb dX6_save_68 rfl (lv_at hl 1 rfl) ?_
        refine lv_iadd hx hb dX6_save_69 ?_
        refine lv_aload_n hx hb dX6_save_70 rfl (lv_at hl 0 rfl) ?_
        refine va_get (D := gD G) (ci := 6) (v := .ref qyn) (C := RX6) (T := TX6) (N := 16) hx hb hts k_X6_save_inX6 hown hK hP 0 rfl rfl 1 (by decide) (hts _ k_X6_save_f7) (fun _ h9 => h9) rfl dX6_save_71 ?_
        refine lv_iload_n hx hb dX6_save_74 rfl (lv_at hl 1 rfl) ?_
        obtain ⟨h3, hw⟩ := hw
        refine va_iald hx hb hK hP 1 0 rfl rfl h3 dX6_save_75 ?_
        obtain ⟨h4, hw⟩ := hw
        refine va_iast hx hb hK hP hD hS 6 0 rfl rfl h4 dX6_save_76 (fun H locs hP hD hS => ?_)
        have hP : va_P (gD G) vwCl (w0_X6_save G qy qyn qyt qyu qyf qyr qyb qyk qyi qyx yn yt yu yf yr (upd yb (((45 : Int32) * zs) + x1).toNatClampNeg (yn x1.toNatClampNeg)) yk yi yx za zs zl zt zg zr zm) H := hP
        have hD : va_D A (w0_X6_save G qy qyn qyt qyu qyf qyr qyb qyk qyi qyx yn yt yu yf yr (upd yb (((45 : Int32) * zs) + x1).toNatClampNeg (yn x1.toNatClampNeg)) yk yi yx za zs zl zt zg zr zm) := hD
        refine lv_iinc (v := (x1 + 1)) (lv' := [(1, .int (x1 + 1)), (0, .ref qy)]) hx hb dX6_save_77 hl (k := 1) rfl rfl (by decide) rfl (fun ls hl => ?_)
        refine lv_goto (tgt := 51) hx hb dX6_save_80 (by decide) ?_
        exact ih (upd yb (((45 : Int32) * zs) + x1).toNatClampNeg (yn x1.toNatClampNeg)) zs (x1 + 1) _ _ _ hP hD hS (lv_sub hl [1, 0] rfl) hw
  have J11 : ∀ (n : Nat) (yb : Nat → Int32) (zs : Int32) (x1 : Int32) (H : Heap) (locs : List Loc) (ls : Array Slot), va_P (gD G) vwCl (w0_X6_save G qy qyn qyt qyu qyf qyr qyb qyk qyi qyx yn yt yu yf yr yb yk yi yx za zs zl zt zg zr zm) H → va_D A (w0_X6_save G qy qyn qyt qyu qyf qyr qyb qyk qyi qyx yn yt yu yf yr yb yk yi yx za zs zl zt zg zr zm) → va_S A s.heap H locs → lv_has ls 2 [(0, .ref qy), (1, .int x1)] → wl_n_X6_save_11 yn Q n yb zs x1 → W p l e ({ frames := 0, cells := 0, slots := 0, locals := 0 } : Room) s m ([.ref qy] : List Value).toArray below meth c H locs 0 0 (MQ below (va_Qv (fun (u : (Nat → Int32) × Int32) => Q u.1 u.2) (mBk G A (fun (u : (Nat → Int32) × Int32) => (w0_X6_save G qy qyn qyt qyu qyf qyr qyb qyk qyi qyx yn yt yu yf yr u.1 yk yi yx za u.2 zl zt zg zr zm))) A) ([.ref qy] : List Value).toArray s 0 0 A) (F0 m 11 ls []) := by
    intro n
    induction n with
    | zero => intro yb zs x1 H locs ls hP hD hS hl hw; exact False.elim hw
    | succ n ih =>
      intro yb zs x1 H locs ls hP hD hS hl hw
      rw [wl_n_X6_save_11] at hw
      refine lv_iload_n hx hb dX6_save_11 rfl (lv_at hl 1 rfl) ?_
      refine lv_sipush (v := 225) hx hb dX6_save_12 (by decide) ?_
      refine lv_icmp_ge (tgt := 39) hx hb dX6_save_15 (by decide) (fun cd5 => ?_) (fun cd5 => ?_)
      · have hw := hw.1 cd5
        refine lv_aload_n hx hb dX6_save_39 rfl (lv_at hl 0 rfl) ?_
        refine lv_dup hx hb dX6_save_40 rfl ?_
        refine va_get (D := gD G) (ci := 6) (v := .int zs) (C := RX6) (T := TX6) (N := 16) hx hb hts k_X6_save_inX6 hown hK hP 0 rfl rfl 7 (by decide) (hts _ k_X6_save_f70) (fun _ h9 => h9) rfl dX6_save_41 ?_
        refine lv_iconst (v := 1) hx hb dX6_save_44 (by decide) ?_
        refine lv_isub hx hb dX6_save_45 ?_
        refine va_put (D := gD G) (ci := 6) (v := .int (zs - (1 : Int32))) (ty := .int) (C := RX6) (T := TX6) (N := 16) hx hb hts k_X6_save_inX6 tyX6 tyX6_ok nmX6 hown hK hP hD hS 0 rfl rfl 7 (by decide) (hts _ k_X6_save_f70) (fun _ h9 => h9) rfl (by decide +kernel) rfl rfl (Nat.le_of_ble_eq_true rfl) dX6_save_46 (fun H locs hP hD hS => ?_)
        have hP : va_P (gD G) vwCl (w0_X6_save G qy qyn qyt qyu qyf qyr qyb qyk qyi qyx yn yt yu yf yr yb yk yi yx za (zs - (1 : Int32)) zl zt zg zr zm) H := hP
        have hD : va_D A (w0_X6_save G qy qyn qyt qyu qyf qyr qyb qyk qyi qyx yn yt yu yf yr yb yk yi yx za (zs - (1 : Int32)) zl zt zg zr zm) := hD
        refine lv_iconst (v := 0) hx hb dX6_save_49 (by decide) ?_
        refine lv_istore_n (lv' := [(1, .int (0 : Int32)), (0, .ref qy)]) hx hb dX6_save_50 rfl hl (by decide) rfl (fun ls hl => ?_)
        obtain ⟨n51, hw⟩ := hw
        exact J51 n51 yb (zs - (1 : Int32)) (0 : Int32) _ _ _ hP hD hS (lv_sub hl [1, 0] rfl) hw
      · have hw := hw.2 cd5
        refine lv_aload_n hx hb dX6_save_18 rfl (lv_at hl 0 rfl) ?_
        refine va_get (D := gD G) (ci := 6) (v := .ref qyb) (C := RX6) (T := TX6) (N := 16) hx hb hts k_X6_save_inX6 hown hK hP 0 rfl rfl 6 (by decide) (hts _ k_X6_save_f25) (fun _ h9 => h9) rfl dX6_save_19 ?_
        refine lv_iload_n hx hb dX6_save_22 rfl (lv_at hl 1 rfl) ?_
        refine lv_aload_n hx hb dX6_save_23 rfl (lv_at hl 0 rfl) ?_
        refine va_get (D := gD G) (ci := 6) (v := .ref qyb) (C := RX6) (T := TX6) (N := 16) hx hb hts k_X6_save_inX6 hown hK hP 0 rfl rfl 6 (by decide) (hts _ k_X6_save_f25) (fun _ h9 => h9) rfl dX6_save_24 ?_
        refine lv_bipush (v := 45) hx hb dX6_save_27 (by decide) ?_
        refine lv_iload_n hx hb dX6_save_29 rfl (lv_at hl 1 rfl) ?_
        refine lv_iadd hx hb dX6_save_30 ?_
        obtain ⟨h6, hw⟩ := hw
        refine va_iald hx hb hK hP 6 0 rfl rfl h6 dX6_save_31 ?_
        obtain ⟨h7, hw⟩ := hw
        refine va_iast hx hb hK hP hD hS 6 0 rfl rfl h7 dX6_save_32 (fun H locs hP hD hS => ?_)
        have hP : va_P (gD G) vwCl (w0_X6_save G qy qyn qyt qyu qyf qyr qyb qyk qyi qyx yn yt yu yf yr (upd yb x1.toNatClampNeg (yb ((45 : Int32) + x1).toNatClampNeg)) yk yi yx za zs zl zt zg zr zm) H := hP
        have hD : va_D A (w0_X6_save G qy qyn qyt qyu qyf qyr qyb qyk qyi qyx yn yt yu yf yr (upd yb x1.toNatClampNeg (yb ((45 : Int32) + x1).toNatClampNeg)) yk yi yx za zs zl zt zg zr zm) := hD
        refine lv_iinc (v := (x1 + 1)) (lv' := [(1, .int (x1 + 1)), (0, .ref qy)]) hx hb dX6_save_33 hl (k := 1) rfl rfl (by decide) rfl (fun ls hl => ?_)
        refine lv_goto (tgt := 11) hx hb dX6_save_36 (by decide) ?_
        exact ih (upd yb x1.toNatClampNeg (yb ((45 : Int32) + x1).toNatClampNeg)) zs (x1 + 1) _ _ _ hP hD hS (lv_sub hl [1, 0] rfl) hw
  unfold wn_X6_save at hw
  refine lv_aload_n hx hb dX6_save_0 rfl (lv_at hl 0 rfl) ?_
  refine va_get (D := gD G) (ci := 6) (v := .int zs) (C := RX6) (T := TX6) (N := 16) hx hb hts k_X6_save_inX6 hown hK hP 0 rfl rfl 7 (by decide) (hts _ k_X6_save_f70) (fun _ h9 => h9) rfl dX6_save_1 ?_
  refine lv_bipush (v := 6) hx hb dX6_save_4 (by decide) ?_
  refine lv_icmp_ne (tgt := 49) hx hb dX6_save_6 (by decide) (fun cd1 => ?_) (fun cd1 => ?_)
  · have hw := hw.1 cd1
    refine lv_iconst (v := 0) hx hb dX6_save_49 (by decide) ?_
    refine lv_istore_n (lv' := [(1, .int (0 : Int32)), (0, .ref qy)]) hx hb dX6_save_50 rfl hl (by decide) rfl (fun ls hl => ?_)
    obtain ⟨n51, hw⟩ := hw
    exact J51 n51 yb zs (0 : Int32) _ _ _ hP hD hS (lv_sub hl [1, 0] rfl) hw
  · have hw := hw.2 cd1
    refine lv_iconst (v := 0) hx hb dX6_save_9 (by decide) ?_
    refine lv_istore_n (lv' := [(1, .int (0 : Int32)), (0, .ref qy)]) hx hb dX6_save_10 rfl hl (by decide) rfl (fun ls hl => ?_)
    obtain ⟨n11, hw⟩ := hw
    exact J11 n11 yb zs (0 : Int32) _ _ _ hP hD hS (lv_sub hl [1, 0] rfl) hw

abbrev w0_X6_goAdd (G : mG) (qu : Nat) (uu : Nat → Int32) : va_W := [(qu, .inl (gI G, (45, .inl uu)))]
set_option maxHeartbeats 8000000 in
set_option maxRecDepth 100000 in
theorem cn_X6_goAdd (l : Launch) (G : mG) (qu : Nat) (uu : Nat → Int32) (a1 : Int32) (a2 : Int32) (a3 : Int32) {Q : Int32 → (Nat → Int32) → Prop} (hw : wn_X6_goAdd uu a1 a2 a3 Q) (sz : Nat) :
    Met l yX6_goAdd wsX6_goAdd ({ frames := 0, cells := 0, slots := 0, locals := 0 } : Room) (va_Pc [.ref qu, .int a1, .int a2, .int a3] (mPre G (w0_X6_goAdd G qu uu) sz)) (va_Qi (fun (r : Int32) (u : (Nat → Int32)) => Q r u) (mBk G (va_A (w0_X6_goAdd G qu uu) sz) (fun (u : (Nat → Int32)) => (w0_X6_goAdd G qu u))) (va_A (w0_X6_goAdd G qu uu) sz)) 0 0 (va_A (w0_X6_goAdd G qu uu) sz) := by
  refine ms_i (cc := cX6_goAdd) (maxL := 5) (ret := some .int) (post := (fun (r : Int32) (u : (Nat → Int32)) => Q r u)) (w1 := (fun (u : (Nat → Int32)) => (w0_X6_goAdd G qu u))) (by decide) rfl (Nat.le_of_ble_eq_true rfl) ?_ sz
  intro p e s m below meth c A ls H locs hx hb hr hml hown hts hlocks hK hG hP hD hS hA hl
  have hown : s.vm.findClass RX6 = some m.cls := hown
  have hl : lv_has ls 5 [(0, .ref qu), (1, .int a1), (2, .int a2), (3, .int a3)] := hl
  unfold wn_X6_goAdd at hw
  refine lv_aload_n hx hb dX6_goAdd_0 rfl (lv_at hl 0 rfl) ?_
  refine lv_bipush (v := 44) hx hb dX6_goAdd_1 (by decide) ?_
  obtain ⟨h1, hw⟩ := hw
  refine va_iald hx hb hK hP 0 0 rfl rfl h1 dX6_goAdd_3 ?_
  refine lv_istore (lv' := [(4, .int (uu (44 : Int32).toNatClampNeg)), (0, .ref qu), (1, .int a1), (2, .int a2), (3, .int a3)]) hx hb dX6_goAdd_4 hl (by decide) rfl (fun ls hl => ?_)
  refine lv_aload_n hx hb dX6_goAdd_6 rfl (lv_at hl 1 rfl) ?_
  refine lv_iload hx hb dX6_goAdd_7 (lv_at hl 0 rfl) ?_
  refine lv_iload_n hx hb dX6_goAdd_9 rfl (lv_at hl 2 rfl) ?_
  obtain ⟨h2, hw⟩ := hw
  refine va_iast hx hb hK hP hD hS 0 0 rfl rfl h2 dX6_goAdd_10 (fun H locs hP hD hS => ?_)
  have hP : va_P (gD G) vwCl (w0_X6_goAdd G qu (upd uu (uu (44 : Int32).toNatClampNeg).toNatClampNeg a1)) H := hP
  have hD : va_D A (w0_X6_goAdd G qu (upd uu (uu (44 : Int32).toNatClampNeg).toNatClampNeg a1)) := hD
  refine lv_aload_n hx hb dX6_goAdd_11 rfl (lv_at hl 1 rfl) ?_
  refine lv_bipush (v := 14) hx hb dX6_goAdd_12 (by decide) ?_
  refine lv_iload hx hb dX6_goAdd_14 (lv_at hl 0 rfl) ?_
  refine lv_iadd hx hb dX6_goAdd_16 ?_
  refine lv_iload_n hx hb dX6_goAdd_17 rfl (lv_at hl 3 rfl) ?_
  obtain ⟨h3, hw⟩ := hw
  refine va_iast hx hb hK hP hD hS 0 0 rfl rfl h3 dX6_goAdd_18 (fun H locs hP hD hS => ?_)
  have hP : va_P (gD G) vwCl (w0_X6_goAdd G qu (upd (upd uu (uu (44 : Int32).toNatClampNeg).toNatClampNeg a1) ((14 : Int32) + (uu (44 : Int32).toNatClampNeg)).toNatClampNeg a2)) H := hP
  have hD : va_D A (w0_X6_goAdd G qu (upd (upd uu (uu (44 : Int32).toNatClampNeg).toNatClampNeg a1) ((14 : Int32) + (uu (44 : Int32).toNatClampNeg)).toNatClampNeg a2)) := hD
  refine lv_aload_n hx hb dX6_goAdd_19 rfl (lv_at hl 1 rfl) ?_
  refine lv_bipush (v := 28) hx hb dX6_goAdd_20 (by decide) ?_
  refine lv_iload hx hb dX6_goAdd_22 (lv_at hl 0 rfl) ?_
  refine lv_iadd hx hb dX6_goAdd_24 ?_
  refine lv_iload_n hx hb dX6_goAdd_25 rfl (lv_at hl 4 rfl) ?_
  obtain ⟨h4, hw⟩ := hw
  refine va_iast hx hb hK hP hD hS 0 0 rfl rfl h4 dX6_goAdd_26 (fun H locs hP hD hS => ?_)
  have hP : va_P (gD G) vwCl (w0_X6_goAdd G qu (upd (upd (upd uu (uu (44 : Int32).toNatClampNeg).toNatClampNeg a1) ((14 : Int32) + (uu (44 : Int32).toNatClampNeg)).toNatClampNeg a2) ((28 : Int32) + (uu (44 : Int32).toNatClampNeg)).toNatClampNeg a3)) H := hP
  have hD : va_D A (w0_X6_goAdd G qu (upd (upd (upd uu (uu (44 : Int32).toNatClampNeg).toNatClampNeg a1) ((14 : Int32) + (uu (44 : Int32).toNatClampNeg)).toNatClampNeg a2) ((28 : Int32) + (uu (44 : Int32).toNatClampNeg)).toNatClampNeg a3)) := hD
  refine lv_aload_n hx hb dX6_goAdd_27 rfl (lv_at hl 1 rfl) ?_
  refine lv_bipush (v := 44) hx hb dX6_goAdd_28 (by decide) ?_
  refine lv_dup2_11 hx hb dX6_goAdd_30 rfl rfl ?_
  obtain ⟨h5, hw⟩ := hw
  refine va_iald hx hb hK hP 0 0 rfl rfl h5 dX6_goAdd_31 ?_
  refine lv_iconst (v := 1) hx hb dX6_goAdd_32 (by decide) ?_
  refine lv_iadd hx hb dX6_goAdd_33 ?_
  obtain ⟨h6, hw⟩ := hw
  refine va_iast hx hb hK hP hD hS 0 0 rfl rfl h6 dX6_goAdd_34 (fun H locs hP hD hS => ?_)
  have hP : va_P (gD G) vwCl (w0_X6_goAdd G qu (upd (upd (upd (upd uu (uu (44 : Int32).toNatClampNeg).toNatClampNeg a1) ((14 : Int32) + (uu (44 : Int32).toNatClampNeg)).toNatClampNeg a2) ((28 : Int32) + (uu (44 : Int32).toNatClampNeg)).toNatClampNeg a3) (44 : Int32).toNatClampNeg (((upd (upd (upd uu (uu (44 : Int32).toNatClampNeg).toNatClampNeg a1) ((14 : Int32) + (uu (44 : Int32).toNatClampNeg)).toNatClampNeg a2) ((28 : Int32) + (uu (44 : Int32).toNatClampNeg)).toNatClampNeg a3) (44 : Int32).toNatClampNeg) + (1 : Int32)))) H := hP
  have hD : va_D A (w0_X6_goAdd G qu (upd (upd (upd (upd uu (uu (44 : Int32).toNatClampNeg).toNatClampNeg a1) ((14 : Int32) + (uu (44 : Int32).toNatClampNeg)).toNatClampNeg a2) ((28 : Int32) + (uu (44 : Int32).toNatClampNeg)).toNatClampNeg a3) (44 : Int32).toNatClampNeg (((upd (upd (upd uu (uu (44 : Int32).toNatClampNeg).toNatClampNeg a1) ((14 : Int32) + (uu (44 : Int32).toNatClampNeg)).toNatClampNeg a2) ((28 : Int32) + (uu (44 : Int32).toNatClampNeg)).toNatClampNeg a3) (44 : Int32).toNatClampNeg) + (1 : Int32)))) := hD
  refine lv_iload hx hb dX6_goAdd_35 (lv_at hl 0 rfl) ?_
  exact fin_i ((upd (upd (upd (upd uu (uu (44 : Int32).toNatClampNeg).toNatClampNeg a1) ((14 : Int32) + (uu (44 : Int32).toNatClampNeg)).toNatClampNeg a2) ((28 : Int32) + (uu (44 : Int32).toNatClampNeg)).toNatClampNeg a3) (44 : Int32).toNatClampNeg (((upd (upd (upd uu (uu (44 : Int32).toNatClampNeg).toNatClampNeg a1) ((14 : Int32) + (uu (44 : Int32).toNatClampNeg)).toNatClampNeg a2) ((28 : Int32) + (uu (44 : Int32).toNatClampNeg)).toNatClampNeg a3) (44 : Int32).toNatClampNeg) + (1 : Int32)))) hx hb hr hlocks hK hS hP hD hw dX6_goAdd_37

abbrev w0_X6_add (G : mG) (qy : Nat) (qyn : Nat) (qyt : Nat) (qyu : Nat) (qyf : Nat) (qyr : Nat) (qyb : Nat) (qyk : Nat) (qyi : Nat) (qyx : Nat) (yn : Nat → Int32) (yt : Nat → Int32) (yu : Nat → Int32) (yf : Nat → Int32) (yr : Nat → Int32) (yb : Nat → Int32) (yk : Nat → Int32) (yi : Nat → Int32) (yx : Nat → Int32) (za : Int32) (zs : Int32) (zl : Int32) (zt : Int32) (zg : Int32) (zr : Int32) (zm : Int32) : va_W := [(qy, .inr (6, [.int za, .ref qyn, .ref qyt, .ref qyu, .ref qyf, .ref qyr, .ref qyb, .int zs, .ref qyk, .ref qyi, .ref qyx, .int zl, .int zt, .int zg, .int zr, .int zm])), (qyn, .inl (gI G, (45, .inl yn))), (qyt, .inl (gI G, (45, .inl yt))), (qyu, .inl (gI G, (16384, .inl yu))), (qyf, .inl (gI G, (14, .inl yf))), (qyr, .inl (gI G, (14, .inl yr))), (qyb, .inl (gI G, (270, .inl yb))), (qyk, .inl (gI G, (90, .inl yk))), (qyi, .inl (gZ G, (2, .inl yi))), (qyx, .inl (gI G, (60, .inl yx)))]
set_option maxRecDepth 100000 in
theorem k_X6_add_inX6 : ∀ w ∈ u_ws RX6 TX6 16, w ∈ wsX6_add := by decide +kernel
set_option maxRecDepth 100000 in
theorem k_X6_add_f7 : Cond.fieldLink RX6 7 "RehearsalRoomModel" "now" "[I" ∈ wsX6_add := by decide +kernel
set_option maxRecDepth 100000 in
theorem k_X6_add_c77 : Cond.constantLong RX6 77 (50) ∈ wsX6_add := by decide +kernel
set_option maxHeartbeats 8000000 in
set_option maxRecDepth 100000 in
theorem cn_X6_add (l : Launch) (G : mG) (qy : Nat) (qyn : Nat) (qyt : Nat) (qyu : Nat) (qyf : Nat) (qyr : Nat) (qyb : Nat) (qyk : Nat) (qyi : Nat) (qyx : Nat) (yn : Nat → Int32) (yt : Nat → Int32) (yu : Nat → Int32) (yf : Nat → Int32) (yr : Nat → Int32) (yb : Nat → Int32) (yk : Nat → Int32) (yi : Nat → Int32) (yx : Nat → Int32) (za : Int32) (zs : Int32) (zl : Int32) (zt : Int32) (zg : Int32) (zr : Int32) (zm : Int32) (a1 : Int32) (a2 : Int32) (a3 : Int32) {Q : Int32 → (Nat → Int32) → (Nat → Int32) → Int32 → Int32 → Prop} (hw : wn_X6_add yn yb za zs a1 a2 a3 Q) (sz : Nat) :
    Met l yX6_add wsX6_add ({ frames := 2, cells := 0, slots := 0, locals := 46 } : Room) (va_Pc [.ref qy, .int a1, .int a2, .int a3] (mPre G (w0_X6_add G qy qyn qyt qyu qyf qyr qyb qyk qyi qyx yn yt yu yf yr yb yk yi yx za zs zl zt zg zr zm) sz)) (va_Qi (fun (r : Int32) (u : (Nat → Int32) × (Nat → Int32) × Int32 × Int32) => Q r u.1 u.2.1 u.2.2.1 u.2.2.2) (mBk G (va_A (w0_X6_add G qy qyn qyt qyu qyf qyr qyb qyk qyi qyx yn yt yu yf yr yb yk yi yx za zs zl zt zg zr zm) sz) (fun (u : (Nat → Int32) × (Nat → Int32) × Int32 × Int32) => (w0_X6_add G qy qyn qyt qyu qyf qyr qyb qyk qyi qyx u.1 yt yu yf yr u.2.1 yk yi yx u.2.2.1 u.2.2.2 zl zt zg zr zm))) (va_A (w0_X6_add G qy qyn qyt qyu qyf qyr qyb qyk qyi qyx yn yt yu yf yr yb yk yi yx za zs zl zt zg zr zm) sz)) 0 0 (va_A (w0_X6_add G qy qyn qyt qyu qyf qyr qyb qyk qyi qyx yn yt yu yf yr yb yk yi yx za zs zl zt zg zr zm) sz) := by
  refine ms_i (cc := cX6_add) (maxL := 5) (ret := some .int) (post := (fun (r : Int32) (u : (Nat → Int32) × (Nat → Int32) × Int32 × Int32) => Q r u.1 u.2.1 u.2.2.1 u.2.2.2)) (w1 := (fun (u : (Nat → Int32) × (Nat → Int32) × Int32 × Int32) => (w0_X6_add G qy qyn qyt qyu qyf qyr qyb qyk qyi qyx u.1 yt yu yf yr u.2.1 yk yi yx u.2.2.1 u.2.2.2 zl zt zg zr zm))) (by decide) rfl (Nat.le_of_ble_eq_true rfl) ?_ sz
  intro p e s m below meth c A ls H locs hx hb hr hml hown hts hlocks hK hG hP hD hS hA hl
  have hown : s.vm.findClass RX6 = some m.cls := hown
  have hl : lv_has ls 5 [(0, .ref qy), (1, .int a1), (2, .int a2), (3, .int a3)] := hl
  have J54 : ∀ (yn : Nat → Int32) (yb : Nat → Int32) (za : Int32) (zs : Int32) (x1 : Int32) (x2 : Int32) (x3 : Int32) (x4 : Int32) (y1 : Int32) (H : Heap) (locs : List Loc) (ls : Array Slot), (x4 = 0 ∨ x4 = 1) → va_P (gD G) vwCl (w0_X6_add G qy qyn qyt qyu qyf qyr qyb qyk qyi qyx yn yt yu yf yr yb yk yi yx za zs zl zt zg zr zm) H → va_D A (w0_X6_add G qy qyn qyt qyu qyf qyr qyb qyk qyi qyx yn yt yu yf yr yb yk yi yx za zs zl zt zg zr zm) → va_S A s.heap H locs → lv_has ls 5 [(0, .ref qy), (1, .int x1), (2, .int x2), (3, .int x3), (4, .int x4)] → wj_n_X6_add_54 Q yn yb za zs x1 x2 x3 x4 y1 → W p l e ({ frames := 2, cells := 0, slots := 0, locals := 46 } : Room) s m ([.ref qy, .int a1, .int a2, .int a3] : List Value).toArray below meth c H locs 0 0 (MQ below (va_Qi (fun (r : Int32) (u : (Nat → Int32) × (Nat → Int32) × Int32 × Int32) => Q r u.1 u.2.1 u.2.2.1 u.2.2.2) (mBk G A (fun (u : (Nat → Int32) × (Nat → Int32) × Int32 × Int32) => (w0_X6_add G qy qyn qyt qyu qyf qyr qyb qyk qyi qyx u.1 yt yu yf yr u.2.1 yk yi yx u.2.2.1 u.2.2.2 zl zt zg zr zm))) A) ([.ref qy, .int a1, .int a2, .int a3] : List Value).toArray s 0 0 A) (F0 m 54 ls [.int y1, .ref qy]) := by
    intro yn yb za zs x1 x2 x3 x4 y1 H locs ls hz_x4 hP hD hS hl hw
    unfold wj_n_X6_add_54 at hw
    refine kc_i (kr_V [] ⟨hx, hb, hml, hown, hts⟩ (cn_X6_refused l G qy qyn qyt qyu qyf qyr qyb qyk qyi qyx yn yt yu yf yr yb yk yi yx za zs zl zt zg zr zm y1 hw H.size) (cwV 1 hts gX6_add_X6_refused rfl rfl rfl (by decide +kernel) ⟨Nat.le_of_ble_eq_true rfl, Nat.le_of_ble_eq_true rfl⟩) hK hG hP hD hS hA [0, 1, 2, 3, 4, 5, 6, 7, 8, 9] rfl rfl 6 0 rfl rfl rfl hl.1 rfl (Nat.le_of_ble_eq_true rfl) dX6_add_54 ⟨Nat.le_of_ble_eq_true rfl, Nat.le_of_ble_eq_true rfl⟩) hP hD hS hA [0, 1, 2, 3, 4, 5, 6, 7, 8, 9] [] rfl rfl rfl (by decide) (fun r6 u H locs hw hP hD hS => ?_)
    obtain ⟨za_7, rfl⟩ : ∃ z, z = u := ⟨_, rfl⟩
    try dsimp only at hw
    have hP := hP.sub (ws' := (w0_X6_add G qy qyn qyt qyu qyf qyr qyb qyk qyi qyx yn yt yu yf yr yb yk yi yx za_7 zs zl zt zg zr zm)) [0, 1, 2, 3, 4, 5, 6, 7, 8, 9] rfl
    have hD := hD.sub (ws' := (w0_X6_add G qy qyn qyt qyu qyf qyr qyb qyk qyi qyx yn yt yu yf yr yb yk yi yx za_7 zs zl zt zg zr zm)) [0, 1, 2, 3, 4, 5, 6, 7, 8, 9] rfl rfl
    obtain ⟨hz_r6, hw⟩ := hw
    refine lv_if_eq (tgt := 62) hx hb dX6_add_57 (by decide) (fun cd8 => ?_) (fun cd8 => ?_)
    · have hw := hw.1 cd8
      refine lv_aload_n hx hb dX6_add_62 rfl (lv_at hl 0 rfl) ?_
      refine kc_v (kr_V [] ⟨hx, hb, hml, hown, hts⟩ (cn_X6_save l G qy qyn qyt qyu qyf qyr qyb qyk qyi qyx yn yt yu yf yr yb yk yi yx za_7 zs zl zt zg zr zm hw H.size) (cwV 0 hts gX6_add_X6_save rfl rfl rfl (by decide +kernel) ⟨Nat.le_of_ble_eq_true rfl, Nat.le_of_ble_eq_true rfl⟩) hK hG hP hD hS hA [0, 1, 2, 3, 4, 5, 6, 7, 8, 9] rfl rfl 6 0 rfl rfl rfl hl.1 rfl (Nat.le_of_ble_eq_true rfl) dX6_add_63 ⟨Nat.le_of_ble_eq_true rfl, Nat.le_of_ble_eq_true rfl⟩) hP hD hS hA [0, 1, 2, 3, 4, 5, 6, 7, 8, 9] [] rfl rfl rfl (by decide) (fun u H locs hw hP hD hS => ?_)
      obtain ⟨yb_9, zs_10⟩ := u
      try dsimp only at hw
      have hP := hP.sub (ws' := (w0_X6_add G qy qyn qyt qyu qyf qyr qyb qyk qyi qyx yn yt yu yf yr yb_9 yk yi yx za_7 zs_10 zl zt zg zr zm)) [0, 1, 2, 3, 4, 5, 6, 7, 8, 9] rfl
      have hD := hD.sub (ws' := (w0_X6_add G qy qyn qyt qyu qyf qyr qyb qyk qyi qyx yn yt yu yf yr yb_9 yk yi yx za_7 zs_10 zl zt zg zr zm)) [0, 1, 2, 3, 4, 5, 6, 7, 8, 9] rfl rfl
      refine lv_aload_n hx hb dX6_add_66 rfl (lv_at hl 0 rfl) ?_
      refine va_get (D := gD G) (ci := 6) (v := .ref qyn) (C := RX6) (T := TX6) (N := 16) hx hb hts k_X6_add_inX6 hown hK hP 0 rfl rfl 1 (by decide) (hts _ k_X6_add_f7) (fun _ h9 => h9) rfl dX6_add_67 ?_
      refine lv_iload_n hx hb dX6_add_70 rfl (lv_at hl 1 rfl) ?_
      refine lv_iload_n hx hb dX6_add_71 rfl (lv_at hl 2 rfl) ?_
      refine lv_iload_n hx hb dX6_add_72 rfl (lv_at hl 3 rfl) ?_
      refine kc_i (kr_S [] ⟨hx, hb, hml, hown, hts⟩ (cn_X6_goAdd l G qyn yn x1 x2 x3 hw H.size) (va_cwS 4 hts gX6_add_X6_goAdd rfl rfl rfl (by decide +kernel) ⟨Nat.le_of_ble_eq_true rfl, Nat.le_of_ble_eq_true rfl⟩) hK hG hP hD hS hA [1] rfl rfl rfl hl.1 rfl (Nat.le_of_ble_eq_true rfl) dX6_add_73 ⟨Nat.le_of_ble_eq_true rfl, Nat.le_of_ble_eq_true rfl⟩) hP hD hS hA [1] [0, 2, 3, 4, 5, 6, 7, 8, 9] rfl rfl rfl (by decide) (fun r11 u H locs hw hP hD hS => ?_)
      obtain ⟨uu_12, rfl⟩ : ∃ z, z = u := ⟨_, rfl⟩
      try dsimp only at hw
      have hP := hP.sub (ws' := (w0_X6_add G qy qyn qyt qyu qyf qyr qyb qyk qyi qyx uu_12 yt yu yf yr yb_9 yk yi yx za_7 zs_10 zl zt zg zr zm)) [0, 9, 1, 2, 3, 4, 5, 6, 7, 8] rfl
      have hD := hD.sub (ws' := (w0_X6_add G qy qyn qyt qyu qyf qyr qyb qyk qyi qyx uu_12 yt yu yf yr yb_9 yk yi yx za_7 zs_10 zl zt zg zr zm)) [0, 9, 1, 2, 3, 4, 5, 6, 7, 8] rfl rfl
      exact fin_i (uu_12, yb_9, za_7, zs_10) hx hb hr hlocks hK hS hP hD hw dX6_add_76
    · have hw := hw.2 cd8
      refine lv_iconst (v := 0) hx hb dX6_add_60 (by decide) ?_
      exact fin_i (yn, yb, za_7, zs) hx hb hr hlocks hK hS hP hD hw dX6_add_61
  have J25 : ∀ (yn : Nat → Int32) (yb : Nat → Int32) (za : Int32) (zs : Int32) (x1 : Int32) (x2 : Int32) (x3 : Int32) (y0 : Int32) (H : Heap) (locs : List Loc) (ls : Array Slot), (y0 = 0 ∨ y0 = 1) → va_P (gD G) vwCl (w0_X6_add G qy qyn qyt qyu qyf qyr qyb qyk qyi qyx yn yt yu yf yr yb yk yi yx za zs zl zt zg zr zm) H → va_D A (w0_X6_add G qy qyn qyt qyu qyf qyr qyb qyk qyi qyx yn yt yu yf yr yb yk yi yx za zs zl zt zg zr zm) → va_S A s.heap H locs → lv_has ls 5 [(0, .ref qy), (1, .int x1), (2, .int x2), (3, .int x3)] → wj_n_X6_add_25 Q yn yb za zs x1 x2 x3 y0 → W p l e ({ frames := 2, cells := 0, slots := 0, locals := 46 } : Room) s m ([.ref qy, .int a1, .int a2, .int a3] : List Value).toArray below meth c H locs 0 0 (MQ below (va_Qi (fun (r : Int32) (u : (Nat → Int32) × (Nat → Int32) × Int32 × Int32) => Q r u.1 u.2.1 u.2.2.1 u.2.2.2) (mBk G A (fun (u : (Nat → Int32) × (Nat → Int32) × Int32 × Int32) => (w0_X6_add G qy qyn qyt qyu qyf qyr qyb qyk qyi qyx u.1 yt yu yf yr u.2.1 yk yi yx u.2.2.1 u.2.2.2 zl zt zg zr zm))) A) ([.ref qy, .int a1, .int a2, .int a3] : List Value).toArray s 0 0 A) (F0 m 25 ls [.int y0]) := by
    intro yn yb za zs x1 x2 x3 y0 H locs ls hz_y0 hP hD hS hl hw
    unfold wj_n_X6_add_25 at hw
    refine lv_istore (lv' := [(4, .int y0), (0, .ref qy), (1, .int x1), (2, .int x2), (3, .int x3)]) hx hb dX6_add_25 hl (by decide) rfl (fun ls hl => ?_)
    refine lv_aload_n hx hb dX6_add_27 rfl (lv_at hl 1 rfl) ?_
    refine lv_iload hx hb dX6_add_28 (lv_at hl 0 rfl) ?_
    refine lv_if_ne (tgt := 37) hx hb dX6_add_30 (by decide) (fun cd3 => ?_) (fun cd3 => ?_)
    · have hw := hw.1 cd3
      refine lv_aload_n hx hb dX6_add_37 rfl (lv_at hl 1 rfl) ?_
      refine va_get (D := gD G) (ci := 6) (v := .ref qyn) (C := RX6) (T := TX6) (N := 16) hx hb hts k_X6_add_inX6 hown hK hP 0 rfl rfl 1 (by decide) (hts _ k_X6_add_f7) (fun _ h9 => h9) rfl dX6_add_38 ?_
      refine lv_bipush (v := 44) hx hb dX6_add_41 (by decide) ?_
      obtain ⟨h4, hw⟩ := hw
      refine va_iald hx hb hK hP 1 0 rfl rfl h4 dX6_add_43 ?_
      refine lv_bipush (v := 14) hx hb dX6_add_44 (by decide) ?_
      refine lv_icmp_ne (tgt := 53) hx hb dX6_add_46 (by decide) (fun cd5 => ?_) (fun cd5 => ?_)
      · have hw := hw.1 cd5
        refine lv_iconst (v := 0) hx hb dX6_add_53 (by decide) ?_
        exact J54 yn yb za zs x1 x2 x3 y0 (0 : Int32) _ _ _ hz_y0 hP hD hS (lv_sub hl [1, 2, 3, 4, 0] rfl) hw
      · have hw := hw.2 cd5
        refine lv_iconst (v := 2) hx hb dX6_add_49 (by decide) ?_
        refine lv_goto (tgt := 54) hx hb dX6_add_50 (by decide) ?_
        exact J54 yn yb za zs x1 x2 x3 y0 (2 : Int32) _ _ _ hz_y0 hP hD hS (lv_sub hl [1, 2, 3, 4, 0] rfl) hw
    · have hw := hw.2 cd3
      refine lv_iconst (v := 1) hx hb dX6_add_33 (by decide) ?_
      refine lv_goto (tgt := 54) hx hb dX6_add_34 (by decide) ?_
      exact J54 yn yb za zs x1 x2 x3 y0 (1 : Int32) _ _ _ hz_y0 hP hD hS (lv_sub hl [1, 2, 3, 4, 0] rfl) hw
  have J24 : ∀ (yn : Nat → Int32) (yb : Nat → Int32) (za : Int32) (zs : Int32) (x1 : Int32) (x2 : Int32) (x3 : Int32) (H : Heap) (locs : List Loc) (ls : Array Slot), va_P (gD G) vwCl (w0_X6_add G qy qyn qyt qyu qyf qyr qyb qyk qyi qyx yn yt yu yf yr yb yk yi yx za zs zl zt zg zr zm) H → va_D A (w0_X6_add G qy qyn qyt qyu qyf qyr qyb qyk qyi qyx yn yt yu yf yr yb yk yi yx za zs zl zt zg zr zm) → va_S A s.heap H locs → lv_has ls 5 [(0, .ref qy), (1, .int x1), (2, .int x2), (3, .int x3)] → wj_n_X6_add_24 Q yn yb za zs x1 x2 x3 → W p l e ({ frames := 2, cells := 0, slots := 0, locals := 46 } : Room) s m ([.ref qy, .int a1, .int a2, .int a3] : List Value).toArray below meth c H locs 0 0 (MQ below (va_Qi (fun (r : Int32) (u : (Nat → Int32) × (Nat → Int32) × Int32 × Int32) => Q r u.1 u.2.1 u.2.2.1 u.2.2.2) (mBk G A (fun (u : (Nat → Int32) × (Nat → Int32) × Int32 × Int32) => (w0_X6_add G qy qyn qyt qyu qyf qyr qyb qyk qyi qyx u.1 yt yu yf yr u.2.1 yk yi yx u.2.2.1 u.2.2.2 zl zt zg zr zm))) A) ([.ref qy, .int a1, .int a2, .int a3] : List Value).toArray s 0 0 A) (F0 m 24 ls []) := by
    intro yn yb za zs x1 x2 x3 H locs ls hP hD hS hl hw
    unfold wj_n_X6_add_24 at hw
    refine lv_iconst (v := 0) hx hb dX6_add_24 (by decide) ?_
    exact J25 yn yb za zs x1 x2 x3 (0 : Int32) _ _ _ (Or.inl rfl) hP hD hS hl hw
  unfold wn_X6_add at hw
  refine lv_iload_n hx hb dX6_add_0 rfl (lv_at hl 1 rfl) ?_
  refine lv_iload_n hx hb dX6_add_1 rfl (lv_at hl 2 rfl) ?_
  refine kcR_i (kr_S [] ⟨hx, hb, hml, hown, hts⟩ (cn_X6_isTime l G a1 a2 hw H.size) (va_cwS 2 hts gX6_add_X6_isTime rfl rfl rfl (by decide +kernel) ⟨Nat.le_of_ble_eq_true rfl, Nat.le_of_ble_eq_true rfl⟩) hK hG hP hD hS hA [] rfl rfl rfl hl.1 rfl (Nat.le_of_ble_eq_true rfl) dX6_add_2 ⟨Nat.le_of_ble_eq_true rfl, Nat.le_of_ble_eq_true rfl⟩) hP hD hS hA [] rfl (fun r1 u H locs hw hP hS => ?_)
  try dsimp only at hw
  obtain ⟨hz_r1, hw⟩ := hw
  refine lv_if_eq (tgt := 24) hx hb dX6_add_5 (by decide) (fun cd2 => ?_) (fun cd2 => ?_)
  · have hw := hw.1 cd2
    exact J24 yn yb za zs a1 a2 a3 _ _ _ hP hD hS hl hw
  · have hw := hw.2 cd2
    refine lv_iload_n hx hb dX6_add_8 rfl (lv_at hl 3 rfl) ?_
    refine lv_i2l hx hb dX6_add_9 rfl ?_
    refine lv_lconst (v := 1) hx hb dX6_add_10 (by decide) ?_
    refine lv_ldc2 (v := 50) hx hb hown (hts _ k_X6_add_c77) dX6_add_11 ?_
    refine kcR_i (kr_S [] ⟨hx, hb, hml, hown, hts⟩ (cn_X6_in l G a3.toInt64 (1 : Int64) (50 : Int64) hw H.size) (va_cwS 3 hts gX6_add_X6_in rfl rfl rfl (by decide +kernel) ⟨Nat.le_of_ble_eq_true rfl, Nat.le_of_ble_eq_true rfl⟩) hK hG hP hD hS hA [] rfl rfl rfl hl.1 rfl (Nat.le_of_ble_eq_true rfl) dX6_add_14 ⟨Nat.le_of_ble_eq_true rfl, Nat.le_of_ble_eq_true rfl⟩) hP hD hS hA [] rfl (fun r13 u H locs hw hP hS => ?_)
    try dsimp only at hw
    obtain ⟨hz_r13, hw⟩ := hw
    refine lv_if_eq (tgt := 24) hx hb dX6_add_17 (by decide) (fun cd14 => ?_) (fun cd14 => ?_)
    · have hw := hw.1 cd14
      exact J24 yn yb za zs a1 a2 a3 _ _ _ hP hD hS hl hw
    · have hw := hw.2 cd14
      refine lv_iconst (v := 1) hx hb dX6_add_20 (by decide) ?_
      refine lv_goto (tgt := 25) hx hb dX6_add_21 (by decide) ?_
      exact J25 yn yb za zs a1 a2 a3 (1 : Int32) _ _ _ (Or.inr rfl) hP hD hS hl hw

abbrev w0_X6_noOne (G : mG) (qy : Nat) (qyn : Nat) (qyt : Nat) (qyu : Nat) (qyf : Nat) (qyr : Nat) (qyb : Nat) (qyk : Nat) (qyi : Nat) (qyx : Nat) (yn : Nat → Int32) (yt : Nat → Int32) (yu : Nat → Int32) (yf : Nat → Int32) (yr : Nat → Int32) (yb : Nat → Int32) (yk : Nat → Int32) (yi : Nat → Int32) (yx : Nat → Int32) (za : Int32) (zs : Int32) (zl : Int32) (zt : Int32) (zg : Int32) (zr : Int32) (zm : Int32) : va_W := [(qy, .inr (6, [.int za, .ref qyn, .ref qyt, .ref qyu, .ref qyf, .ref qyr, .ref qyb, .int zs, .ref qyk, .ref qyi, .ref qyx, .int zl, .int zt, .int zg, .int zr, .int zm])), (qyn, .inl (gI G, (45, .inl yn))), (qyt, .inl (gI G, (45, .inl yt))), (qyu, .inl (gI G, (16384, .inl yu))), (qyf, .inl (gI G, (14, .inl yf))), (qyr, .inl (gI G, (14, .inl yr))), (qyb, .inl (gI G, (270, .inl yb))), (qyk, .inl (gI G, (90, .inl yk))), (qyi, .inl (gZ G, (2, .inl yi))), (qyx, .inl (gI G, (60, .inl yx)))]
set_option maxHeartbeats 8000000 in
set_option maxRecDepth 100000 in
theorem cn_X6_noOne (l : Launch) (G : mG) (qy : Nat) (qyn : Nat) (qyt : Nat) (qyu : Nat) (qyf : Nat) (qyr : Nat) (qyb : Nat) (qyk : Nat) (qyi : Nat) (qyx : Nat) (yn : Nat → Int32) (yt : Nat → Int32) (yu : Nat → Int32) (yf : Nat → Int32) (yr : Nat → Int32) (yb : Nat → Int32) (yk : Nat → Int32) (yi : Nat → Int32) (yx : Nat → Int32) (za : Int32) (zs : Int32) (zl : Int32) (zt : Int32) (zg : Int32) (zr : Int32) (zm : Int32) (a1 : Int32) {Q : Int32 → Int32 → Prop} (hw : wn_X6_noOne yn za a1 Q) (sz : Nat) :
    Met l yX6_noOne wsX6_noOne ({ frames := 2, cells := 0, slots := 0, locals := 46 } : Room) (va_Pc [.ref qy, .int a1] (mPre G (w0_X6_noOne G qy qyn qyt qyu qyf qyr qyb qyk qyi qyx yn yt yu yf yr yb yk yi yx za zs zl zt zg zr zm) sz)) (va_Qi (fun (r : Int32) (u : Int32) => (r = 0 ∨ r = 1) ∧ Q r u) (mBk G (va_A (w0_X6_noOne G qy qyn qyt qyu qyf qyr qyb qyk qyi qyx yn yt yu yf yr yb yk yi yx za zs zl zt zg zr zm) sz) (fun (u : Int32) => (w0_X6_noOne G qy qyn qyt qyu qyf qyr qyb qyk qyi qyx yn yt yu yf yr yb yk yi yx u zs zl zt zg zr zm))) (va_A (w0_X6_noOne G qy qyn qyt qyu qyf qyr qyb qyk qyi qyx yn yt yu yf yr yb yk yi yx za zs zl zt zg zr zm) sz)) 0 0 (va_A (w0_X6_noOne G qy qyn qyt qyu qyf qyr qyb qyk qyi qyx yn yt yu yf yr yb yk yi yx za zs zl zt zg zr zm) sz) := by
  refine ms_i (cc := cX6_noOne) (maxL := 2) (ret := some .boolean) (post := (fun (r : Int32) (u : Int32) => (r = 0 ∨ r = 1) ∧ Q r u)) (w1 := (fun (u : Int32) => (w0_X6_noOne G qy qyn qyt qyu qyf qyr qyb qyk qyi qyx yn yt yu yf yr yb yk yi yx u zs zl zt zg zr zm))) (by decide) rfl (Nat.le_of_ble_eq_true rfl) ?_ sz
  intro p e s m below meth c A ls H locs hx hb hr hml hown hts hlocks hK hG hP hD hS hA hl
  have hown : s.vm.findClass RX6 = some m.cls := hown
  have hl : lv_has ls 2 [(0, .ref qy), (1, .int a1)] := hl
  have J14 : ∀ (za : Int32) (x1 : Int32) (y1 : Int32) (H : Heap) (locs : List Loc) (ls : Array Slot), (y1 = 0 ∨ y1 = 1) → va_P (gD G) vwCl (w0_X6_noOne G qy qyn qyt qyu qyf qyr qyb qyk qyi qyx yn yt yu yf yr yb yk yi yx za zs zl zt zg zr zm) H → va_D A (w0_X6_noOne G qy qyn qyt qyu qyf qyr qyb qyk qyi qyx yn yt yu yf yr yb yk yi yx za zs zl zt zg zr zm) → va_S A s.heap H locs → lv_has ls 2 [(0, .ref qy), (1, .int x1)] → wj_n_X6_noOne_14 yn Q za x1 y1 → W p l e ({ frames := 2, cells := 0, slots := 0, locals := 46 } : Room) s m ([.ref qy, .int a1] : List Value).toArray below meth c H locs 0 0 (MQ below (va_Qi (fun (r : Int32) (u : Int32) => (r = 0 ∨ r = 1) ∧ Q r u) (mBk G A (fun (u : Int32) => (w0_X6_noOne G qy qyn qyt qyu qyf qyr qyb qyk qyi qyx yn yt yu yf yr yb yk yi yx u zs zl zt zg zr zm))) A) ([.ref qy, .int a1] : List Value).toArray s 0 0 A) (F0 m 14 ls [.int y1, .ref qy]) := by
    intro za x1 y1 H locs ls hz_y1 hP hD hS hl hw
    unfold wj_n_X6_noOne_14 at hw
    refine kc_i (kr_V [] ⟨hx, hb, hml, hown, hts⟩ (cn_X6_refused l G qy qyn qyt qyu qyf qyr qyb qyk qyi qyx yn yt yu yf yr yb yk yi yx za zs zl zt zg zr zm y1 hw H.size) (cwV 1 hts gX6_noOne_X6_refused rfl rfl rfl (by decide +kernel) ⟨Nat.le_of_ble_eq_true rfl, Nat.le_of_ble_eq_true rfl⟩) hK hG hP hD hS hA [0, 1, 2, 3, 4, 5, 6, 7, 8, 9] rfl rfl 6 0 rfl rfl rfl hl.1 rfl (Nat.le_of_ble_eq_true rfl) dX6_noOne_14 ⟨Nat.le_of_ble_eq_true rfl, Nat.le_of_ble_eq_true rfl⟩) hP hD hS hA [0, 1, 2, 3, 4, 5, 6, 7, 8, 9] [] rfl rfl rfl (by decide) (fun r3 u H locs hw hP hD hS => ?_)
    obtain ⟨za_4, rfl⟩ : ∃ z, z = u := ⟨_, rfl⟩
    try dsimp only at hw
    have hP := hP.sub (ws' := (w0_X6_noOne G qy qyn qyt qyu qyf qyr qyb qyk qyi qyx yn yt yu yf yr yb yk yi yx za_4 zs zl zt zg zr zm)) [0, 1, 2, 3, 4, 5, 6, 7, 8, 9] rfl
    have hD := hD.sub (ws' := (w0_X6_noOne G qy qyn qyt qyu qyf qyr qyb qyk qyi qyx yn yt yu yf yr yb yk yi yx za_4 zs zl zt zg zr zm)) [0, 1, 2, 3, 4, 5, 6, 7, 8, 9] rfl rfl
    obtain ⟨hz_r3, hw⟩ := hw
    exact fin_z (za_4) hx hb hr (nz hz_r3) hlocks hK hS hP hD ⟨hz_r3, hw⟩ dX6_noOne_17
  unfold wn_X6_noOne at hw
  refine lv_aload_n hx hb dX6_noOne_0 rfl (lv_at hl 0 rfl) ?_
  refine lv_aload_n hx hb dX6_noOne_1 rfl (lv_at hl 0 rfl) ?_
  refine lv_iload_n hx hb dX6_noOne_2 rfl (lv_at hl 1 rfl) ?_
  refine kcR_i (kr_V [.ref qy] ⟨hx, hb, hml, hown, hts⟩ (cn_X6_isThere l G qy qyn qyt qyu qyf qyr qyb qyk qyi qyx yn yt yu yf yr yb yk yi yx za zs zl zt zg zr zm a1 hw H.size) (cwV 1 hts gX6_noOne_X6_isThere rfl rfl rfl (by decide +kernel) ⟨Nat.le_of_ble_eq_true rfl, Nat.le_of_ble_eq_true rfl⟩) hK hG hP hD hS hA [0, 1, 2, 3, 4, 5, 6, 7, 8, 9] rfl rfl 6 0 rfl rfl rfl hl.1 rfl (Nat.le_of_ble_eq_true rfl) dX6_noOne_3 ⟨Nat.le_of_ble_eq_true rfl, Nat.le_of_ble_eq_true rfl⟩) hP hD hS hA [0, 1, 2, 3, 4, 5, 6, 7, 8, 9] rfl (fun r1 u H locs hw hP hS => ?_)
  try dsimp only at hw
  obtain ⟨hz_r1, hw⟩ := hw
  refine lv_if_eq (tgt := 13) hx hb dX6_noOne_6 (by decide) (fun cd2 => ?_) (fun cd2 => ?_)
  · have hw := hw.1 cd2
    refine lv_iconst (v := 1) hx hb dX6_noOne_13 (by decide) ?_
    exact J14 za a1 (1 : Int32) _ _ _ (Or.inr rfl) hP hD hS hl hw
  · have hw := hw.2 cd2
    refine lv_iconst (v := 0) hx hb dX6_noOne_9 (by decide) ?_
    refine lv_goto (tgt := 14) hx hb dX6_noOne_10 (by decide) ?_
    exact J14 za a1 (0 : Int32) _ _ _ (Or.inl rfl) hP hD hS hl hw

abbrev w0_X6_strike (G : mG) (qy : Nat) (qyn : Nat) (qyt : Nat) (qyu : Nat) (qyf : Nat) (qyr : Nat) (qyb : Nat) (qyk : Nat) (qyi : Nat) (qyx : Nat) (yn : Nat → Int32) (yt : Nat → Int32) (yu : Nat → Int32) (yf : Nat → Int32) (yr : Nat → Int32) (yb : Nat → Int32) (yk : Nat → Int32) (yi : Nat → Int32) (yx : Nat → Int32) (za : Int32) (zs : Int32) (zl : Int32) (zt : Int32) (zg : Int32) (zr : Int32) (zm : Int32) : va_W := [(qy, .inr (6, [.int za, .ref qyn, .ref qyt, .ref qyu, .ref qyf, .ref qyr, .ref qyb, .int zs, .ref qyk, .ref qyi, .ref qyx, .int zl, .int zt, .int zg, .int zr, .int zm])), (qyn, .inl (gI G, (45, .inl yn))), (qyt, .inl (gI G, (45, .inl yt))), (qyu, .inl (gI G, (16384, .inl yu))), (qyf, .inl (gI G, (14, .inl yf))), (qyr, .inl (gI G, (14, .inl yr))), (qyb, .inl (gI G, (270, .inl yb))), (qyk, .inl (gI G, (90, .inl yk))), (qyi, .inl (gZ G, (2, .inl yi))), (qyx, .inl (gI G, (60, .inl yx)))]
set_option maxRecDepth 100000 in
theorem k_X6_strike_inX6 : ∀ w ∈ u_ws RX6 TX6 16, w ∈ wsX6_strike := by decide +kernel
set_option maxRecDepth 100000 in
theorem k_X6_strike_f7 : Cond.fieldLink RX6 7 "RehearsalRoomModel" "now" "[I" ∈ wsX6_strike := by decide +kernel
set_option maxHeartbeats 8000000 in
set_option maxRecDepth 100000 in
theorem cn_X6_strike (l : Launch) (G : mG) (qy : Nat) (qyn : Nat) (qyt : Nat) (qyu : Nat) (qyf : Nat) (qyr : Nat) (qyb : Nat) (qyk : Nat) (qyi : Nat) (qyx : Nat) (yn : Nat → Int32) (yt : Nat → Int32) (yu : Nat → Int32) (yf : Nat → Int32) (yr : Nat → Int32) (yb : Nat → Int32) (yk : Nat → Int32) (yi : Nat → Int32) (yx : Nat → Int32) (za : Int32) (zs : Int32) (zl : Int32) (zt : Int32) (zg : Int32) (zr : Int32) (zm : Int32) (a1 : Int32) {Q : Int32 → (Nat → Int32) → (Nat → Int32) → Int32 → Int32 → Prop} (hw : wn_X6_strike yn yb za zs a1 Q) (sz : Nat) :
    Met l yX6_strike wsX6_strike ({ frames := 3, cells := 0, slots := 0, locals := 67 } : Room) (va_Pc [.ref qy, .int a1] (mPre G (w0_X6_strike G qy qyn qyt qyu qyf qyr qyb qyk qyi qyx yn yt yu yf yr yb yk yi yx za zs zl zt zg zr zm) sz)) (va_Qi (fun (r : Int32) (u : (Nat → Int32) × (Nat → Int32) × Int32 × Int32) => Q r u.1 u.2.1 u.2.2.1 u.2.2.2) (mBk G (va_A (w0_X6_strike G qy qyn qyt qyu qyf qyr qyb qyk qyi qyx yn yt yu yf yr yb yk yi yx za zs zl zt zg zr zm) sz) (fun (u : (Nat → Int32) × (Nat → Int32) × Int32 × Int32) => (w0_X6_strike G qy qyn qyt qyu qyf qyr qyb qyk qyi qyx u.1 yt yu yf yr u.2.1 yk yi yx u.2.2.1 u.2.2.2 zl zt zg zr zm))) (va_A (w0_X6_strike G qy qyn qyt qyu qyf qyr qyb qyk qyi qyx yn yt yu yf yr yb yk yi yx za zs zl zt zg zr zm) sz)) 0 0 (va_A (w0_X6_strike G qy qyn qyt qyu qyf qyr qyb qyk qyi qyx yn yt yu yf yr yb yk yi yx za zs zl zt zg zr zm) sz) := by
  refine ms_i (cc := cX6_strike) (maxL := 6) (ret := some .int) (post := (fun (r : Int32) (u : (Nat → Int32) × (Nat → Int32) × Int32 × Int32) => Q r u.1 u.2.1 u.2.2.1 u.2.2.2)) (w1 := (fun (u : (Nat → Int32) × (Nat → Int32) × Int32 × Int32) => (w0_X6_strike G qy qyn qyt qyu qyf qyr qyb qyk qyi qyx u.1 yt yu yf yr u.2.1 yk yi yx u.2.2.1 u.2.2.2 zl zt zg zr zm))) (by decide) rfl (Nat.le_of_ble_eq_true rfl) ?_ sz
  intro p e s m below meth c A ls H locs hx hb hr hml hown hts hlocks hK hG hP hD hS hA hl
  have hown : s.vm.findClass RX6 = some m.cls := hown
  have hl : lv_has ls 6 [(0, .ref qy), (1, .int a1)] := hl
  have J78 : ∀ (n : Nat) (yn : Nat → Int32) (yb : Nat → Int32) (za : Int32) (zs : Int32) (x1 : Int32) (x2 : Int32) (x3 : Int32) (x4 : Int32) (x5 : Int32) (H : Heap) (locs : List Loc) (ls : Array Slot), va_P (gD G) vwCl (w0_X6_strike G qy qyn qyt qyu qyf qyr qyb qyk qyi qyx yn yt yu yf yr yb yk yi yx za zs zl zt zg zr zm) H → va_D A (w0_X6_strike G qy qyn qyt qyu qyf qyr qyb qyk qyi qyx yn yt yu yf yr yb yk yi yx za zs zl zt zg zr zm) → va_S A s.heap H locs → lv_has ls 6 [(0, .ref qy), (1, .int x1), (2, .int x2), (3, .int x3), (4, .int x4), (5, .int x5)] → wl_n_X6_strike_78 Q n yn yb za zs x1 x2 x3 x4 x5 → W p l e ({ frames := 3, cells := 0, slots := 0, locals := 67 } : Room) s m ([.ref qy, .int a1] : List Value).toArray below meth c H locs 0 0 (MQ below (va_Qi (fun (r : Int32) (u : (Nat → Int32) × (Nat → Int32) × Int32 × Int32) => Q r u.1 u.2.1 u.2.2.1 u.2.2.2) (mBk G A (fun (u : (Nat → Int32) × (Nat → Int32) × Int32 × Int32) => (w0_X6_strike G qy qyn qyt qyu qyf qyr qyb qyk qyi qyx u.1 yt yu yf yr u.2.1 yk yi yx u.2.2.1 u.2.2.2 zl zt zg zr zm))) A) ([.ref qy, .int a1] : List Value).toArray s 0 0 A) (F0 m 78 ls []) := by
    intro n
    induction n with
    | zero => intro yn yb za zs x1 x2 x3 x4 x5 H locs ls hP hD hS hl hw; exact False.elim hw
    | succ n ih =>
      intro yn yb za zs x1 x2 x3 x4 x5 H locs ls hP hD hS hl hw
      rw [wl_n_X6_strike_78] at hw
      refine lv_iload hx hb dX6_strike_78 (lv_at hl 5 rfl) ?_
      refine lv_aload_n hx hb dX6_strike_80 rfl (lv_at hl 0 rfl) ?_
      refine va_get (D := gD G) (ci := 6) (v := .ref qyn) (C := RX6) (T := TX6) (N := 16) hx hb hts k_X6_strike_inX6 hown hK hP 0 rfl rfl 1 (by decide) (hts _ k_X6_strike_f7) (fun _ h9 => h9) rfl dX6_strike_81 ?_
      refine lv_bipush (v := 44) hx hb dX6_strike_84 (by decide) ?_
      obtain ⟨h14, hw⟩ := hw
      refine va_iald hx hb hK hP 1 0 rfl rfl h14 dX6_strike_86 ?_
      refine lv_icmp_ge (tgt := 156) hx hb dX6_strike_87 (by decide) (fun cd15 => ?_) (fun cd15 => ?_)
      · have hw := hw.1 cd15
        refine lv_iload_n hx hb dX6_strike_156 rfl (lv_at hl 2 rfl) ?_
        exact fin_i (yn, yb, za, zs) hx hb hr hlocks hK hS hP hD hw dX6_strike_157
      · have hw := hw.2 cd15
        refine lv_aload_n hx hb dX6_strike_90 rfl (lv_at hl 0 rfl) ?_
        refine va_get (D := gD G) (ci := 6) (v := .ref qyn) (C := RX6) (T := TX6) (N := 16) hx hb hts k_X6_strike_inX6 hown hK hP 0 rfl rfl 1 (by decide) (hts _ k_X6_strike_f7) (fun _ h9 => h9) rfl dX6_strike_91 ?_
        refine lv_iload hx hb dX6_strike_94 (lv_at hl 5 rfl) ?_
        refine lv_aload_n hx hb dX6_strike_96 rfl (lv_at hl 0 rfl) ?_
        refine va_get (D := gD G) (ci := 6) (v := .ref qyn) (C := RX6) (T := TX6) (N := 16) hx hb hts k_X6_strike_inX6 hown hK hP 0 rfl rfl 1 (by decide) (hts _ k_X6_strike_f7) (fun _ h9 => h9) rfl dX6_strike_97 ?_
        refine lv_iload hx hb dX6_strike_100 (lv_at hl 5 rfl) ?_
        refine lv_iconst (v := 1) hx hb dX6_strike_102 (by decide) ?_
        refine lv_iadd hx hb dX6_strike_103 ?_
        obtain ⟨h16, hw⟩ := hw
        refine va_iald hx hb hK hP 1 0 rfl rfl h16 dX6_strike_104 ?_
        obtain ⟨h17, hw⟩ := hw
        refine va_iast hx hb hK hP hD hS 1 0 rfl rfl h17 dX6_strike_105 (fun H locs hP hD hS => ?_)
        have hP : va_P (gD G) vwCl (w0_X6_strike G qy qyn qyt qyu qyf qyr qyb qyk qyi qyx (upd yn x5.toNatClampNeg (yn (x5 + (1 : Int32)).toNatClampNeg)) yt yu yf yr yb yk yi yx za zs zl zt zg zr zm) H := hP
        have hD : va_D A (w0_X6_strike G qy qyn qyt qyu qyf qyr qyb qyk qyi qyx (upd yn x5.toNatClampNeg (yn (x5 + (1 : Int32)).toNatClampNeg)) yt yu yf yr yb yk yi yx za zs zl zt zg zr zm) := hD
        refine lv_aload_n hx hb dX6_strike_106 rfl (lv_at hl 0 rfl) ?_
        refine va_get (D := gD G) (ci := 6) (v := .ref qyn) (C := RX6) (T := TX6) (N := 16) hx hb hts k_X6_strike_inX6 hown hK hP 0 rfl rfl 1 (by decide) (hts _ k_X6_strike_f7) (fun _ h9 => h9) rfl dX6_strike_107 ?_
        refine lv_bipush (v := 14) hx hb dX6_strike_110 (by decide) ?_
        refine lv_iload hx hb dX6_strike_112 (lv_at hl 5 rfl) ?_
        refine lv_iadd hx hb dX6_strike_114 ?_
        refine lv_aload_n hx hb dX6_strike_115 rfl (lv_at hl 0 rfl) ?_
        refine va_get (D := gD G) (ci := 6) (v := .ref qyn) (C := RX6) (T := TX6) (N := 16) hx hb hts k_X6_strike_inX6 hown hK hP 0 rfl rfl 1 (by decide) (hts _ k_X6_strike_f7) (fun _ h9 => h9) rfl dX6_strike_116 ?_
        refine lv_bipush (v := 14) hx hb dX6_strike_119 (by decide) ?_
        refine lv_iload hx hb dX6_strike_121 (lv_at hl 5 rfl) ?_
        refine lv_iadd hx hb dX6_strike_123 ?_
        refine lv_iconst (v := 1) hx hb dX6_strike_124 (by decide) ?_
        refine lv_iadd hx hb dX6_strike_125 ?_
        obtain ⟨h18, hw⟩ := hw
        refine va_iald hx hb hK hP 1 0 rfl rfl h18 dX6_strike_126 ?_
        obtain ⟨h19, hw⟩ := hw
        refine va_iast hx hb hK hP hD hS 1 0 rfl rfl h19 dX6_strike_127 (fun H locs hP hD hS => ?_)
        have hP : va_P (gD G) vwCl (w0_X6_strike G qy qyn qyt qyu qyf qyr qyb qyk qyi qyx (upd (upd yn x5.toNatClampNeg (yn (x5 + (1 : Int32)).toNatClampNeg)) ((14 : Int32) + x5).toNatClampNeg ((upd yn x5.toNatClampNeg (yn (x5 + (1 : Int32)).toNatClampNeg)) (((14 : Int32) + x5) + (1 : Int32)).toNatClampNeg)) yt yu yf yr yb yk yi yx za zs zl zt zg zr zm) H := hP
        have hD : va_D A (w0_X6_strike G qy qyn qyt qyu qyf qyr qyb qyk qyi qyx (upd (upd yn x5.toNatClampNeg (yn (x5 + (1 : Int32)).toNatClampNeg)) ((14 : Int32) + x5).toNatClampNeg ((upd yn x5.toNatClampNeg (yn (x5 + (1 : Int32)).toNatClampNeg)) (((14 : Int32) + x5) + (1 : Int32)).toNatClampNeg)) yt yu yf yr yb yk yi yx za zs zl zt zg zr zm) := hD
        refine lv_aload_n hx hb dX6_strike_128 rfl (lv_at hl 0 rfl) ?_
        refine va_get (D := gD G) (ci := 6) (v := .ref qyn) (C := RX6) (T := TX6) (N := 16) hx hb hts k_X6_strike_inX6 hown hK hP 0 rfl rfl 1 (by decide) (hts _ k_X6_strike_f7) (fun _ h9 => h9) rfl dX6_strike_129 ?_
        refine lv_bipush (v := 28) hx hb dX6_strike_132 (by decide) ?_
        refine lv_iload hx hb dX6_strike_134 (lv_at hl 5 rfl) ?_
        refine lv_iadd hx hb dX6_strike_136 ?_
        refine lv_aload_n hx hb dX6_strike_137 rfl (lv_at hl 0 rfl) ?_
        refine va_get (D := gD G) (ci := 6) (v := .ref qyn) (C := RX6) (T := TX6) (N := 16) hx hb hts k_X6_strike_inX6 hown hK hP 0 rfl rfl 1 (by decide) (hts _ k_X6_strike_f7) (fun _ h9 => h9) rfl dX6_strike_138 ?_
        refine lv_bipush (v := 28) hx hb dX6_strike_141 (by decide) ?_
        refine lv_iload hx hb dX6_strike_143 (lv_at hl 5 rfl) ?_
        refine lv_iadd hx hb dX6_strike_145 ?_
        refine lv_iconst (v := 1) hx hb dX6_strike_146 (by decide) ?_
        refine lv_iadd hx hb dX6_strike_147 ?_
        obtain ⟨h20, hw⟩ := hw
        refine va_iald hx hb hK hP 1 0 rfl rfl h20 dX6_strike_148 ?_
        obtain ⟨h21, hw⟩ := hw
        refine va_iast hx hb hK hP hD hS 1 0 rfl rfl h21 dX6_strike_149 (fun H locs hP hD hS => ?_)
        have hP : va_P (gD G) vwCl (w0_X6_strike G qy qyn qyt qyu qyf qyr qyb qyk qyi qyx (upd (upd (upd yn x5.toNatClampNeg (yn (x5 + (1 : Int32)).toNatClampNeg)) ((14 : Int32) + x5).toNatClampNeg ((upd yn x5.toNatClampNeg (yn (x5 + (1 : Int32)).toNatClampNeg)) (((14 : Int32) + x5) + (1 : Int32)).toNatClampNeg)) ((28 : Int32) + x5).toNatClampNeg ((upd (upd yn x5.toNatClampNeg (yn (x5 + (1 : Int32)).toNatClampNeg)) ((14 : Int32) + x5).toNatClampNeg ((upd yn x5.toNatClampNeg (yn (x5 + (1 : Int32)).toNatClampNeg)) (((14 : Int32) + x5) + (1 : Int32)).toNatClampNeg)) (((28 : Int32) + x5) + (1 : Int32)).toNatClampNeg)) yt yu yf yr yb yk yi yx za zs zl zt zg zr zm) H := hP
        have hD : va_D A (w0_X6_strike G qy qyn qyt qyu qyf qyr qyb qyk qyi qyx (upd (upd (upd yn x5.toNatClampNeg (yn (x5 + (1 : Int32)).toNatClampNeg)) ((14 : Int32) + x5).toNatClampNeg ((upd yn x5.toNatClampNeg (yn (x5 + (1 : Int32)).toNatClampNeg)) (((14 : Int32) + x5) + (1 : Int32)).toNatClampNeg)) ((28 : Int32) + x5).toNatClampNeg ((upd (upd yn x5.toNatClampNeg (yn (x5 + (1 : Int32)).toNatClampNeg)) ((14 : Int32) + x5).toNatClampNeg ((upd yn x5.toNatClampNeg (yn (x5 + (1 : Int32)).toNatClampNeg)) (((14 : Int32) + x5) + (1 : Int32)).toNatClampNeg)) (((28 : Int32) + x5) + (1 : Int32)).toNatClampNeg)) yt yu yf yr yb yk yi yx za zs zl zt zg zr zm) := hD
        refine lv_iinc (v := (x5 + 1)) (lv' := [(5, .int (x5 + 1)), (0, .ref qy), (1, .int x1), (2, .int x2), (3, .int x3), (4, .int x4)]) hx hb dX6_strike_150 hl (k := 5) rfl rfl (by decide) rfl (fun ls hl => ?_)
        refine lv_goto (tgt := 78) hx hb dX6_strike_153 (by decide) ?_
        exact ih (upd (upd (upd yn x5.toNatClampNeg (yn (x5 + (1 : Int32)).toNatClampNeg)) ((14 : Int32) + x5).toNatClampNeg ((upd yn x5.toNatClampNeg (yn (x5 + (1 : Int32)).toNatClampNeg)) (((14 : Int32) + x5) + (1 : Int32)).toNatClampNeg)) ((28 : Int32) + x5).toNatClampNeg ((upd (upd yn x5.toNatClampNeg (yn (x5 + (1 : Int32)).toNatClampNeg)) ((14 : Int32) + x5).toNatClampNeg ((upd yn x5.toNatClampNeg (yn (x5 + (1 : Int32)).toNatClampNeg)) (((14 : Int32) + x5) + (1 : Int32)).toNatClampNeg)) (((28 : Int32) + x5) + (1 : Int32)).toNatClampNeg)) yb za zs x1 x2 x3 x4 (x5 + 1) _ _ _ hP hD hS (lv_sub hl [1, 2, 3, 4, 5, 0] rfl) hw
  unfold wn_X6_strike at hw
  refine lv_aload_n hx hb dX6_strike_0 rfl (lv_at hl 0 rfl) ?_
  refine lv_iload_n hx hb dX6_strike_1 rfl (lv_at hl 1 rfl) ?_
  refine kc_i (kr_V [] ⟨hx, hb, hml, hown, hts⟩ (cn_X6_noOne l G qy qyn qyt qyu qyf qyr qyb qyk qyi qyx yn yt yu yf yr yb yk yi yx za zs zl zt zg zr zm a1 hw H.size) (cwV 1 hts gX6_strike_X6_noOne rfl rfl rfl (by decide +kernel) ⟨Nat.le_of_ble_eq_true rfl, Nat.le_of_ble_eq_true rfl⟩) hK hG hP hD hS hA [0, 1, 2, 3, 4, 5, 6, 7, 8, 9] rfl rfl 6 0 rfl rfl rfl hl.1 rfl (Nat.le_of_ble_eq_true rfl) dX6_strike_2 ⟨Nat.le_of_ble_eq_true rfl, Nat.le_of_ble_eq_true rfl⟩) hP hD hS hA [0, 1, 2, 3, 4, 5, 6, 7, 8, 9] [] rfl rfl rfl (by decide) (fun r1 u H locs hw hP hD hS => ?_)
  obtain ⟨za_2, rfl⟩ : ∃ z, z = u := ⟨_, rfl⟩
  try dsimp only at hw
  have hP := hP.sub (ws' := (w0_X6_strike G qy qyn qyt qyu qyf qyr qyb qyk qyi qyx yn yt yu yf yr yb yk yi yx za_2 zs zl zt zg zr zm)) [0, 1, 2, 3, 4, 5, 6, 7, 8, 9] rfl
  have hD := hD.sub (ws' := (w0_X6_strike G qy qyn qyt qyu qyf qyr qyb qyk qyi qyx yn yt yu yf yr yb yk yi yx za_2 zs zl zt zg zr zm)) [0, 1, 2, 3, 4, 5, 6, 7, 8, 9] rfl rfl
  obtain ⟨hz_r1, hw⟩ := hw
  refine lv_if_eq (tgt := 10) hx hb dX6_strike_5 (by decide) (fun cd3 => ?_) (fun cd3 => ?_)
  · have hw := hw.1 cd3
    refine lv_aload_n hx hb dX6_strike_10 rfl (lv_at hl 0 rfl) ?_
    refine kc_v (kr_V [] ⟨hx, hb, hml, hown, hts⟩ (cn_X6_save l G qy qyn qyt qyu qyf qyr qyb qyk qyi qyx yn yt yu yf yr yb yk yi yx za_2 zs zl zt zg zr zm hw H.size) (cwV 0 hts gX6_strike_X6_save rfl rfl rfl (by decide +kernel) ⟨Nat.le_of_ble_eq_true rfl, Nat.le_of_ble_eq_true rfl⟩) hK hG hP hD hS hA [0, 1, 2, 3, 4, 5, 6, 7, 8, 9] rfl rfl 6 0 rfl rfl rfl hl.1 rfl (Nat.le_of_ble_eq_true rfl) dX6_strike_11 ⟨Nat.le_of_ble_eq_true rfl, Nat.le_of_ble_eq_true rfl⟩) hP hD hS hA [0, 1, 2, 3, 4, 5, 6, 7, 8, 9] [] rfl rfl rfl (by decide) (fun u H locs hw hP hD hS => ?_)
    obtain ⟨yb_4, zs_5⟩ := u
    try dsimp only at hw
    have hP := hP.sub (ws' := (w0_X6_strike G qy qyn qyt qyu qyf qyr qyb qyk qyi qyx yn yt yu yf yr yb_4 yk yi yx za_2 zs_5 zl zt zg zr zm)) [0, 1, 2, 3, 4, 5, 6, 7, 8, 9] rfl
    have hD := hD.sub (ws' := (w0_X6_strike G qy qyn qyt qyu qyf qyr qyb qyk qyi qyx yn yt yu yf yr yb_4 yk yi yx za_2 zs_5 zl zt zg zr zm)) [0, 1, 2, 3, 4, 5, 6, 7, 8, 9] rfl rfl
    refine lv_aload_n hx hb dX6_strike_14 rfl (lv_at hl 0 rfl) ?_
    refine va_get (D := gD G) (ci := 6) (v := .ref qyn) (C := RX6) (T := TX6) (N := 16) hx hb hts k_X6_strike_inX6 hown hK hP 0 rfl rfl 1 (by decide) (hts _ k_X6_strike_f7) (fun _ h9 => h9) rfl dX6_strike_15 ?_
    refine lv_bipush (v := 28) hx hb dX6_strike_18 (by decide) ?_
    refine lv_iload_n hx hb dX6_strike_20 rfl (lv_at hl 1 rfl) ?_
    refine lv_iadd hx hb dX6_strike_21 ?_
    obtain ⟨h6, hw⟩ := hw
    refine va_iald hx hb hK hP 1 0 rfl rfl h6 dX6_strike_22 ?_
    refine lv_istore_n (lv' := [(2, .int (yn ((28 : Int32) + a1).toNatClampNeg)), (0, .ref qy), (1, .int a1)]) hx hb dX6_strike_23 rfl hl (by decide) rfl (fun ls hl => ?_)
    refine lv_aload_n hx hb dX6_strike_24 rfl (lv_at hl 1 rfl) ?_
    refine va_get (D := gD G) (ci := 6) (v := .ref qyn) (C := RX6) (T := TX6) (N := 16) hx hb hts k_X6_strike_inX6 hown hK hP 0 rfl rfl 1 (by decide) (hts _ k_X6_strike_f7) (fun _ h9 => h9) rfl dX6_strike_25 ?_
    refine lv_bipush (v := 42) hx hb dX6_strike_28 (by decide) ?_
    obtain ⟨h7, hw⟩ := hw
    refine va_iald hx hb hK hP 1 0 rfl rfl h7 dX6_strike_30 ?_
    refine lv_iconst (v := 1) hx hb dX6_strike_31 (by decide) ?_
    refine lv_iload_n hx hb dX6_strike_32 rfl (lv_at hl 2 rfl) ?_
    refine lv_ishl hx hb dX6_strike_33 ?_
    refine lv_iconst (v := 1) hx hb dX6_strike_34 (by decide) ?_
    refine lv_isub hx hb dX6_strike_35 ?_
    refine lv_iand hx hb dX6_strike_36 ?_
    refine lv_topi (fun v8 ev8 => ?_)
    have hw := hw v8 ev8
    refine lv_istore_n (lv' := [(3, .int v8), (2, .int (yn ((28 : Int32) + a1).toNatClampNeg)), (0, .ref qy), (1, .int a1)]) hx hb dX6_strike_37 rfl hl (by decide) rfl (fun ls hl => ?_)
    refine lv_aload_n hx hb dX6_strike_38 rfl (lv_at hl 2 rfl) ?_
    refine va_get (D := gD G) (ci := 6) (v := .ref qyn) (C := RX6) (T := TX6) (N := 16) hx hb hts k_X6_strike_inX6 hown hK hP 0 rfl rfl 1 (by decide) (hts _ k_X6_strike_f7) (fun _ h9 => h9) rfl dX6_strike_39 ?_
    refine lv_bipush (v := 42) hx hb dX6_strike_42 (by decide) ?_
    obtain ⟨h9, hw⟩ := hw
    refine va_iald hx hb hK hP 1 0 rfl rfl h9 dX6_strike_44 ?_
    refine lv_iload_n hx hb dX6_strike_45 rfl (lv_at hl 3 rfl) ?_
    refine lv_iconst (v := 1) hx hb dX6_strike_46 (by decide) ?_
    refine lv_iadd hx hb dX6_strike_47 ?_
    refine lv_ishr hx hb dX6_strike_48 ?_
    refine lv_topi (fun v10 ev10 => ?_)
    have hw := hw v10 ev10
    refine lv_istore (lv' := [(4, .int v10), (3, .int v8), (2, .int (yn ((28 : Int32) + a1).toNatClampNeg)), (0, .ref qy), (1, .int a1)]) hx hb dX6_strike_49 hl (by decide) rfl (fun ls hl => ?_)
    refine lv_aload_n hx hb dX6_strike_51 rfl (lv_at hl 3 rfl) ?_
    refine va_get (D := gD G) (ci := 6) (v := .ref qyn) (C := RX6) (T := TX6) (N := 16) hx hb hts k_X6_strike_inX6 hown hK hP 0 rfl rfl 1 (by decide) (hts _ k_X6_strike_f7) (fun _ h9 => h9) rfl dX6_strike_52 ?_
    refine lv_bipush (v := 42) hx hb dX6_strike_55 (by decide) ?_
    refine lv_iload_n hx hb dX6_strike_57 rfl (lv_at hl 1 rfl) ?_
    refine lv_iload hx hb dX6_strike_58 (lv_at hl 0 rfl) ?_
    refine lv_iload_n hx hb dX6_strike_60 rfl (lv_at hl 4 rfl) ?_
    refine lv_ishl hx hb dX6_strike_61 ?_
    refine lv_ior hx hb dX6_strike_62 ?_
    obtain ⟨h11, hw⟩ := hw
    refine va_iast hx hb hK hP hD hS 1 0 rfl rfl h11 dX6_strike_63 (fun H locs hP hD hS => ?_)
    have hP : va_P (gD G) vwCl (w0_X6_strike G qy qyn qyt qyu qyf qyr qyb qyk qyi qyx (upd yn (42 : Int32).toNatClampNeg (v8 ||| (v10 <<< (a1 &&& 31)))) yt yu yf yr yb_4 yk yi yx za_2 zs_5 zl zt zg zr zm) H := hP
    have hD : va_D A (w0_X6_strike G qy qyn qyt qyu qyf qyr qyb qyk qyi qyx (upd yn (42 : Int32).toNatClampNeg (v8 ||| (v10 <<< (a1 &&& 31)))) yt yu yf yr yb_4 yk yi yx za_2 zs_5 zl zt zg zr zm) := hD
    refine lv_aload_n hx hb dX6_strike_64 rfl (lv_at hl 3 rfl) ?_
    refine va_get (D := gD G) (ci := 6) (v := .ref qyn) (C := RX6) (T := TX6) (N := 16) hx hb hts k_X6_strike_inX6 hown hK hP 0 rfl rfl 1 (by decide) (hts _ k_X6_strike_f7) (fun _ h9 => h9) rfl dX6_strike_65 ?_
    refine lv_bipush (v := 44) hx hb dX6_strike_68 (by decide) ?_
    refine lv_dup2_11 hx hb dX6_strike_70 rfl rfl ?_
    obtain ⟨h12, hw⟩ := hw
    refine va_iald hx hb hK hP 1 0 rfl rfl h12 dX6_strike_71 ?_
    refine lv_iconst (v := 1) hx hb dX6_strike_72 (by decide) ?_
    refine lv_isub hx hb dX6_strike_73 ?_
    obtain ⟨h13, hw⟩ := hw
    refine va_iast hx hb hK hP hD hS 1 0 rfl rfl h13 dX6_strike_74 (fun H locs hP hD hS => ?_)
    have hP : va_P (gD G) vwCl (w0_X6_strike G qy qyn qyt qyu qyf qyr qyb qyk qyi qyx (upd (upd yn (42 : Int32).toNatClampNeg (v8 ||| (v10 <<< (a1 &&& 31)))) (44 : Int32).toNatClampNeg (((upd yn (42 : Int32).toNatClampNeg (v8 ||| (v10 <<< (a1 &&& 31)))) (44 : Int32).toNatClampNeg) - (1 : Int32))) yt yu yf yr yb_4 yk yi yx za_2 zs_5 zl zt zg zr zm) H := hP
    have hD : va_D A (w0_X6_strike G qy qyn qyt qyu qyf qyr qyb qyk qyi qyx (upd (upd yn (42 : Int32).toNatClampNeg (v8 ||| (v10 <<< (a1 &&& 31)))) (44 : Int32).toNatClampNeg (((upd yn (42 : Int32).toNatClampNeg (v8 ||| (v10 <<< (a1 &&& 31)))) (44 : Int32).toNatClampNeg) - (1 : Int32))) yt yu yf yr yb_4 yk yi yx za_2 zs_5 zl zt zg zr zm) := hD
    refine lv_iload_n hx hb dX6_strike_75 rfl (lv_at hl 4 rfl) ?_
    refine lv_istore (lv' := [(5, .int a1), (4, .int v10), (3, .int v8), (2, .int (yn ((28 : Int32) + a1).toNatClampNeg)), (0, .ref qy), (1, .int a1)]) hx hb dX6_strike_76 hl (by decide) rfl (fun ls hl => ?_)
    obtain ⟨n78, hw⟩ := hw
    exact J78 n78 (upd (upd yn (42 : Int32).toNatClampNeg (v8 ||| (v10 <<< (a1 &&& 31)))) (44 : Int32).toNatClampNeg (((upd yn (42 : Int32).toNatClampNeg (v8 ||| (v10 <<< (a1 &&& 31)))) (44 : Int32).toNatClampNeg) - (1 : Int32))) yb_4 za_2 zs_5 a1 (yn ((28 : Int32) + a1).toNatClampNeg) v8 v10 a1 _ _ _ hP hD hS (lv_sub hl [4, 5, 3, 2, 1, 0] rfl) hw
  · have hw := hw.2 cd3
    refine lv_iconst (v := 0) hx hb dX6_strike_8 (by decide) ?_
    exact fin_i (yn, yb, za_2, zs) hx hb hr hlocks hK hS hP hD hw dX6_strike_9

abbrev w0_X6_move (G : mG) (qy : Nat) (qyn : Nat) (qyt : Nat) (qyu : Nat) (qyf : Nat) (qyr : Nat) (qyb : Nat) (qyk : Nat) (qyi : Nat) (qyx : Nat) (yn : Nat → Int32) (yt : Nat → Int32) (yu : Nat → Int32) (yf : Nat → Int32) (yr : Nat → Int32) (yb : Nat → Int32) (yk : Nat → Int32) (yi : Nat → Int32) (yx : Nat → Int32) (za : Int32) (zs : Int32) (zl : Int32) (zt : Int32) (zg : Int32) (zr : Int32) (zm : Int32) : va_W := [(qy, .inr (6, [.int za, .ref qyn, .ref qyt, .ref qyu, .ref qyf, .ref qyr, .ref qyb, .int zs, .ref qyk, .ref qyi, .ref qyx, .int zl, .int zt, .int zg, .int zr, .int zm])), (qyn, .inl (gI G, (45, .inl yn))), (qyt, .inl (gI G, (45, .inl yt))), (qyu, .inl (gI G, (16384, .inl yu))), (qyf, .inl (gI G, (14, .inl yf))), (qyr, .inl (gI G, (14, .inl yr))), (qyb, .inl (gI G, (270, .inl yb))), (qyk, .inl (gI G, (90, .inl yk))), (qyi, .inl (gZ G, (2, .inl yi))), (qyx, .inl (gI G, (60, .inl yx)))]
set_option maxRecDepth 100000 in
theorem k_X6_move_inX6 : ∀ w ∈ u_ws RX6 TX6 16, w ∈ wsX6_move := by decide +kernel
set_option maxRecDepth 100000 in
theorem k_X6_move_f7 : Cond.fieldLink RX6 7 "RehearsalRoomModel" "now" "[I" ∈ wsX6_move := by decide +kernel
set_option maxRecDepth 100000 in
theorem k_X6_move_f13 : Cond.fieldLink RX6 13 "RehearsalRoomModel" "trial" "[I" ∈ wsX6_move := by decide +kernel
set_option maxHeartbeats 8000000 in
set_option maxRecDepth 100000 in
theorem cn_X6_move (l : Launch) (G : mG) (qy : Nat) (qyn : Nat) (qyt : Nat) (qyu : Nat) (qyf : Nat) (qyr : Nat) (qyb : Nat) (qyk : Nat) (qyi : Nat) (qyx : Nat) (yn : Nat → Int32) (yt : Nat → Int32) (yu : Nat → Int32) (yf : Nat → Int32) (yr : Nat → Int32) (yb : Nat → Int32) (yk : Nat → Int32) (yi : Nat → Int32) (yx : Nat → Int32) (za : Int32) (zs : Int32) (zl : Int32) (zt : Int32) (zg : Int32) (zr : Int32) (zm : Int32) (a1 : Int32) (a2 : Int32) (a3 : Int32) {Q : Int32 → (Nat → Int32) → (Nat → Int32) → (Nat → Int32) → Int32 → Int32 → Prop} (hw : wn_X6_move yn yt yb za zs a1 a2 a3 Q) (sz : Nat) :
    Met l yX6_move wsX6_move ({ frames := 3, cells := 0, slots := 0, locals := 70 } : Room) (va_Pc [.ref qy, .int a1, .int a2, .int a3] (mPre G (w0_X6_move G qy qyn qyt qyu qyf qyr qyb qyk qyi qyx yn yt yu yf yr yb yk yi yx za zs zl zt zg zr zm) sz)) (va_Qi (fun (r : Int32) (u : (Nat → Int32) × (Nat → Int32) × (Nat → Int32) × Int32 × Int32) => Q r u.1 u.2.1 u.2.2.1 u.2.2.2.1 u.2.2.2.2) (mBk G (va_A (w0_X6_move G qy qyn qyt qyu qyf qyr qyb qyk qyi qyx yn yt yu yf yr yb yk yi yx za zs zl zt zg zr zm) sz) (fun (u : (Nat → Int32) × (Nat → Int32) × (Nat → Int32) × Int32 × Int32) => (w0_X6_move G qy qyn qyt qyu qyf qyr qyb qyk qyi qyx u.1 u.2.1 yu yf yr u.2.2.1 yk yi yx u.2.2.2.1 u.2.2.2.2 zl zt zg zr zm))) (va_A (w0_X6_move G qy qyn qyt qyu qyf qyr qyb qyk qyi qyx yn yt yu yf yr yb yk yi yx za zs zl zt zg zr zm) sz)) 0 0 (va_A (w0_X6_move G qy qyn qyt qyu qyf qyr qyb qyk qyi qyx yn yt yu yf yr yb yk yi yx za zs zl zt zg zr zm) sz) := by
  refine ms_i (cc := cX6_move) (maxL := 7) (ret := some .int) (post := (fun (r : Int32) (u : (Nat → Int32) × (Nat → Int32) × (Nat → Int32) × Int32 × Int32) => Q r u.1 u.2.1 u.2.2.1 u.2.2.2.1 u.2.2.2.2)) (w1 := (fun (u : (Nat → Int32) × (Nat → Int32) × (Nat → Int32) × Int32 × Int32) => (w0_X6_move G qy qyn qyt qyu qyf qyr qyb qyk qyi qyx u.1 u.2.1 yu yf yr u.2.2.1 yk yi yx u.2.2.2.1 u.2.2.2.2 zl zt zg zr zm))) (by decide) rfl (Nat.le_of_ble_eq_true rfl) ?_ sz
  intro p e s m below meth c A ls H locs hx hb hr hml hown hts hlocks hK hG hP hD hS hA hl
  have hown : s.vm.findClass RX6 = some m.cls := hown
  have hl : lv_has ls 7 [(0, .ref qy), (1, .int a1), (2, .int a2), (3, .int a3)] := hl
  have J93 : ∀ (yn : Nat → Int32) (yt : Nat → Int32) (yb : Nat → Int32) (za : Int32) (zs : Int32) (x1 : Int32) (x2 : Int32) (x3 : Int32) (x4 : Int32) (x5 : Int32) (y1 : Int32) (H : Heap) (locs : List Loc) (ls : Array Slot), (x4 = 0 ∨ x4 = 1) → (x5 = 0 ∨ x5 = 1) → va_P (gD G) vwCl (w0_X6_move G qy qyn qyt qyu qyf qyr qyb qyk qyi qyx yn yt yu yf yr yb yk yi yx za zs zl zt zg zr zm) H → va_D A (w0_X6_move G qy qyn qyt qyu qyf qyr qyb qyk qyi qyx yn yt yu yf yr yb yk yi yx za zs zl zt zg zr zm) → va_S A s.heap H locs → lv_has ls 7 [(0, .ref qy), (1, .int x1), (2, .int x2), (3, .int x3), (4, .int x4), (5, .int x5)] → wj_n_X6_move_93 Q yn yt yb za zs x1 x2 x3 x4 x5 y1 → W p l e ({ frames := 3, cells := 0, slots := 0, locals := 70 } : Room) s m ([.ref qy, .int a1, .int a2, .int a3] : List Value).toArray below meth c H locs 0 0 (MQ below (va_Qi (fun (r : Int32) (u : (Nat → Int32) × (Nat → Int32) × (Nat → Int32) × Int32 × Int32) => Q r u.1 u.2.1 u.2.2.1 u.2.2.2.1 u.2.2.2.2) (mBk G A (fun (u : (Nat → Int32) × (Nat → Int32) × (Nat → Int32) × Int32 × Int32) => (w0_X6_move G qy qyn qyt qyu qyf qyr qyb qyk qyi qyx u.1 u.2.1 yu yf yr u.2.2.1 yk yi yx u.2.2.2.1 u.2.2.2.2 zl zt zg zr zm))) A) ([.ref qy, .int a1, .int a2, .int a3] : List Value).toArray s 0 0 A) (F0 m 93 ls [.int y1, .ref qy]) := by
    intro yn yt yb za zs x1 x2 x3 x4 x5 y1 H locs ls hz_x4 hz_x5 hP hD hS hl hw
    unfold wj_n_X6_move_93 at hw
    refine kc_i (kr_V [] ⟨hx, hb, hml, hown, hts⟩ (cn_X6_refused l G qy qyn qyt qyu qyf qyr qyb qyk qyi qyx yn yt yu yf yr yb yk yi yx za zs zl zt zg zr zm y1 hw H.size) (cwV 1 hts gX6_move_X6_refused rfl rfl rfl (by decide +kernel) ⟨Nat.le_of_ble_eq_true rfl, Nat.le_of_ble_eq_true rfl⟩) hK hG hP hD hS hA [0, 1, 2, 3, 4, 5, 6, 7, 8, 9] rfl rfl 6 0 rfl rfl rfl hl.1 rfl (Nat.le_of_ble_eq_true rfl) dX6_move_93 ⟨Nat.le_of_ble_eq_true rfl, Nat.le_of_ble_eq_true rfl⟩) hP hD hS hA [0, 1, 2, 3, 4, 5, 6, 7, 8, 9] [] rfl rfl rfl (by decide) (fun r10 u H locs hw hP hD hS => ?_)
    obtain ⟨za_11, rfl⟩ : ∃ z, z = u := ⟨_, rfl⟩
    try dsimp only at hw
    have hP := hP.sub (ws' := (w0_X6_move G qy qyn qyt qyu qyf qyr qyb qyk qyi qyx yn yt yu yf yr yb yk yi yx za_11 zs zl zt zg zr zm)) [0, 1, 2, 3, 4, 5, 6, 7, 8, 9] rfl
    have hD := hD.sub (ws' := (w0_X6_move G qy qyn qyt qyu qyf qyr qyb qyk qyi qyx yn yt yu yf yr yb yk yi yx za_11 zs zl zt zg zr zm)) [0, 1, 2, 3, 4, 5, 6, 7, 8, 9] rfl rfl
    obtain ⟨hz_r10, hw⟩ := hw
    refine lv_if_eq (tgt := 101) hx hb dX6_move_96 (by decide) (fun cd12 => ?_) (fun cd12 => ?_)
    · have hw := hw.1 cd12
      refine lv_aload_n hx hb dX6_move_101 rfl (lv_at hl 0 rfl) ?_
      refine kc_v (kr_V [] ⟨hx, hb, hml, hown, hts⟩ (cn_X6_save l G qy qyn qyt qyu qyf qyr qyb qyk qyi qyx yn yt yu yf yr yb yk yi yx za_11 zs zl zt zg zr zm hw H.size) (cwV 0 hts gX6_move_X6_save rfl rfl rfl (by decide +kernel) ⟨Nat.le_of_ble_eq_true rfl, Nat.le_of_ble_eq_true rfl⟩) hK hG hP hD hS hA [0, 1, 2, 3, 4, 5, 6, 7, 8, 9] rfl rfl 6 0 rfl rfl rfl hl.1 rfl (Nat.le_of_ble_eq_true rfl) dX6_move_102 ⟨Nat.le_of_ble_eq_true rfl, Nat.le_of_ble_eq_true rfl⟩) hP hD hS hA [0, 1, 2, 3, 4, 5, 6, 7, 8, 9] [] rfl rfl rfl (by decide) (fun u H locs hw hP hD hS => ?_)
      obtain ⟨yb_13, zs_14⟩ := u
      try dsimp only at hw
      have hP := hP.sub (ws' := (w0_X6_move G qy qyn qyt qyu qyf qyr qyb qyk qyi qyx yn yt yu yf yr yb_13 yk yi yx za_11 zs_14 zl zt zg zr zm)) [0, 1, 2, 3, 4, 5, 6, 7, 8, 9] rfl
      have hD := hD.sub (ws' := (w0_X6_move G qy qyn qyt qyu qyf qyr qyb qyk qyi qyx yn yt yu yf yr yb_13 yk yi yx za_11 zs_14 zl zt zg zr zm)) [0, 1, 2, 3, 4, 5, 6, 7, 8, 9] rfl rfl
      refine lv_aload_n hx hb dX6_move_105 rfl (lv_at hl 0 rfl) ?_
      refine va_get (D := gD G) (ci := 6) (v := .ref qyn) (C := RX6) (T := TX6) (N := 16) hx hb hts k_X6_move_inX6 hown hK hP 0 rfl rfl 1 (by decide) (hts _ k_X6_move_f7) (fun _ h9 => h9) rfl dX6_move_106 ?_
      refine lv_bipush (v := 14) hx hb dX6_move_109 (by decide) ?_
      refine lv_iload_n hx hb dX6_move_111 rfl (lv_at hl 1 rfl) ?_
      refine lv_iadd hx hb dX6_move_112 ?_
      obtain ⟨h15, hw⟩ := hw
      refine va_iald hx hb hK hP 1 0 rfl rfl h15 dX6_move_113 ?_
      refine lv_aload_n hx hb dX6_move_114 rfl (lv_at hl 0 rfl) ?_
      refine va_get (D := gD G) (ci := 6) (v := .ref qyn) (C := RX6) (T := TX6) (N := 16) hx hb hts k_X6_move_inX6 hown hK hP 0 rfl rfl 1 (by decide) (hts _ k_X6_move_f7) (fun _ h9 => h9) rfl dX6_move_115 ?_
      refine lv_iload_n hx hb dX6_move_118 rfl (lv_at hl 1 rfl) ?_
      obtain ⟨h16, hw⟩ := hw
      refine va_iald hx hb hK hP 1 0 rfl rfl h16 dX6_move_119 ?_
      refine lv_isub hx hb dX6_move_120 ?_
      refine lv_topi (fun v17 ev17 => ?_)
      have hw := hw v17 ev17
      refine lv_istore (lv' := [(6, .int v17), (0, .ref qy), (1, .int x1), (2, .int x2), (3, .int x3), (4, .int x4), (5, .int x5)]) hx hb dX6_move_121 hl (by decide) rfl (fun ls hl => ?_)
      refine lv_aload_n hx hb dX6_move_123 rfl (lv_at hl 1 rfl) ?_
      refine va_get (D := gD G) (ci := 6) (v := .ref qyn) (C := RX6) (T := TX6) (N := 16) hx hb hts k_X6_move_inX6 hown hK hP 0 rfl rfl 1 (by decide) (hts _ k_X6_move_f7) (fun _ h9 => h9) rfl dX6_move_124 ?_
      refine lv_iload_n hx hb dX6_move_127 rfl (lv_at hl 2 rfl) ?_
      refine lv_iload_n hx hb dX6_move_128 rfl (lv_at hl 3 rfl) ?_
      obtain ⟨h18, hw⟩ := hw
      refine va_iast hx hb hK hP hD hS 1 0 rfl rfl h18 dX6_move_129 (fun H locs hP hD hS => ?_)
      have hP : va_P (gD G) vwCl (w0_X6_move G qy qyn qyt qyu qyf qyr qyb qyk qyi qyx (upd yn x1.toNatClampNeg x2) yt yu yf yr yb_13 yk yi yx za_11 zs_14 zl zt zg zr zm) H := hP
      have hD : va_D A (w0_X6_move G qy qyn qyt qyu qyf qyr qyb qyk qyi qyx (upd yn x1.toNatClampNeg x2) yt yu yf yr yb_13 yk yi yx za_11 zs_14 zl zt zg zr zm) := hD
      refine lv_aload_n hx hb dX6_move_130 rfl (lv_at hl 1 rfl) ?_
      refine va_get (D := gD G) (ci := 6) (v := .ref qyn) (C := RX6) (T := TX6) (N := 16) hx hb hts k_X6_move_inX6 hown hK hP 0 rfl rfl 1 (by decide) (hts _ k_X6_move_f7) (fun _ h9 => h9) rfl dX6_move_131 ?_
      refine lv_bipush (v := 14) hx hb dX6_move_134 (by decide) ?_
      refine lv_iload_n hx hb dX6_move_136 rfl (lv_at hl 2 rfl) ?_
      refine lv_iadd hx hb dX6_move_137 ?_
      refine lv_iload_n hx hb dX6_move_138 rfl (lv_at hl 4 rfl) ?_
      obtain ⟨h19, hw⟩ := hw
      refine va_iast hx hb hK hP hD hS 1 0 rfl rfl h19 dX6_move_139 (fun H locs hP hD hS => ?_)
      have hP : va_P (gD G) vwCl (w0_X6_move G qy qyn qyt qyu qyf qyr qyb qyk qyi qyx (upd (upd yn x1.toNatClampNeg x2) ((14 : Int32) + x1).toNatClampNeg x3) yt yu yf yr yb_13 yk yi yx za_11 zs_14 zl zt zg zr zm) H := hP
      have hD : va_D A (w0_X6_move G qy qyn qyt qyu qyf qyr qyb qyk qyi qyx (upd (upd yn x1.toNatClampNeg x2) ((14 : Int32) + x1).toNatClampNeg x3) yt yu yf yr yb_13 yk yi yx za_11 zs_14 zl zt zg zr zm) := hD
      refine lv_iload_n hx hb dX6_move_140 rfl (lv_at hl 4 rfl) ?_
      refine lv_iload_n hx hb dX6_move_141 rfl (lv_at hl 3 rfl) ?_
      refine lv_isub hx hb dX6_move_142 ?_
      refine lv_iload hx hb dX6_move_143 (lv_at hl 0 rfl) ?_
      refine lv_isub hx hb dX6_move_145 ?_
      exact fin_i ((upd (upd yn x1.toNatClampNeg x2) ((14 : Int32) + x1).toNatClampNeg x3), yt, yb_13, za_11, zs_14) hx hb hr hlocks hK hS hP hD hw dX6_move_146
    · have hw := hw.2 cd12
      refine lv_iconst (v := 0) hx hb dX6_move_99 (by decide) ?_
      exact fin_i (yn, yt, yb, za_11, zs) hx hb hr hlocks hK hS hP hD hw dX6_move_100
  have J52 : ∀ (yn : Nat → Int32) (yt : Nat → Int32) (yb : Nat → Int32) (za : Int32) (zs : Int32) (x1 : Int32) (x2 : Int32) (x3 : Int32) (x4 : Int32) (x5 : Int32) (H : Heap) (locs : List Loc) (ls : Array Slot), (x4 = 0 ∨ x4 = 1) → (x5 = 0 ∨ x5 = 1) → va_P (gD G) vwCl (w0_X6_move G qy qyn qyt qyu qyf qyr qyb qyk qyi qyx yn yt yu yf yr yb yk yi yx za zs zl zt zg zr zm) H → va_D A (w0_X6_move G qy qyn qyt qyu qyf qyr qyb qyk qyi qyx yn yt yu yf yr yb yk yi yx za zs zl zt zg zr zm) → va_S A s.heap H locs → lv_has ls 7 [(0, .ref qy), (1, .int x1), (2, .int x2), (3, .int x3), (4, .int x4), (5, .int x5)] → wj_n_X6_move_52 Q yn yt yb za zs x1 x2 x3 x4 x5 → W p l e ({ frames := 3, cells := 0, slots := 0, locals := 70 } : Room) s m ([.ref qy, .int a1, .int a2, .int a3] : List Value).toArray below meth c H locs 0 0 (MQ below (va_Qi (fun (r : Int32) (u : (Nat → Int32) × (Nat → Int32) × (Nat → Int32) × Int32 × Int32) => Q r u.1 u.2.1 u.2.2.1 u.2.2.2.1 u.2.2.2.2) (mBk G A (fun (u : (Nat → Int32) × (Nat → Int32) × (Nat → Int32) × Int32 × Int32) => (w0_X6_move G qy qyn qyt qyu qyf qyr qyb qyk qyi qyx u.1 u.2.1 yu yf yr u.2.2.1 yk yi yx u.2.2.2.1 u.2.2.2.2 zl zt zg zr zm))) A) ([.ref qy, .int a1, .int a2, .int a3] : List Value).toArray s 0 0 A) (F0 m 52 ls []) := by
    intro yn yt yb za zs x1 x2 x3 x4 x5 H locs ls hz_x4 hz_x5 hP hD hS hl hw
    unfold wj_n_X6_move_52 at hw
    refine lv_aload_n hx hb dX6_move_52 rfl (lv_at hl 0 rfl) ?_
    refine lv_iload hx hb dX6_move_53 (lv_at hl 4 rfl) ?_
    refine lv_if_ne (tgt := 62) hx hb dX6_move_55 (by decide) (fun cd5 => ?_) (fun cd5 => ?_)
    · have hw := hw.1 cd5
      refine lv_iload hx hb dX6_move_62 (lv_at hl 5 rfl) ?_
      refine lv_if_ne (tgt := 71) hx hb dX6_move_64 (by decide) (fun cd6 => ?_) (fun cd6 => ?_)
      · have hw := hw.1 cd6
        refine lv_aload_n hx hb dX6_move_71 rfl (lv_at hl 0 rfl) ?_
        refine va_get (D := gD G) (ci := 6) (v := .ref qyt) (C := RX6) (T := TX6) (N := 16) hx hb hts k_X6_move_inX6 hown hK hP 0 rfl rfl 2 (by decide) (hts _ k_X6_move_f13) (fun _ h9 => h9) rfl dX6_move_72 ?_
        refine lv_aload_n hx hb dX6_move_75 rfl (lv_at hl 0 rfl) ?_
        refine va_get (D := gD G) (ci := 6) (v := .ref qyt) (C := RX6) (T := TX6) (N := 16) hx hb hts k_X6_move_inX6 hown hK hP 0 rfl rfl 2 (by decide) (hts _ k_X6_move_f13) (fun _ h9 => h9) rfl dX6_move_76 ?_
        refine lv_bipush (v := 42) hx hb dX6_move_79 (by decide) ?_
        obtain ⟨h7, hw⟩ := hw
        refine va_iald hx hb hK hP 2 0 rfl rfl h7 dX6_move_81 ?_
        refine kcR_i (kr_S [.ref qy] ⟨hx, hb, hml, hown, hts⟩ (cn_X6_isChoice l G qyt yt (yt (42 : Int32).toNatClampNeg) hw H.size) (va_cwS 2 hts gX6_move_X6_isChoice rfl rfl rfl (by decide +kernel) ⟨Nat.le_of_ble_eq_true rfl, Nat.le_of_ble_eq_true rfl⟩) hK hG hP hD hS hA [2] rfl rfl rfl hl.1 rfl (Nat.le_of_ble_eq_true rfl) dX6_move_82 ⟨Nat.le_of_ble_eq_true rfl, Nat.le_of_ble_eq_true rfl⟩) hP hD hS hA [2] rfl (fun r8 u H locs hw hP hS => ?_)
        try dsimp only at hw
        obtain ⟨hz_r8, hw⟩ := hw
        refine lv_if_ne (tgt := 92) hx hb dX6_move_85 (by decide) (fun cd9 => ?_) (fun cd9 => ?_)
        · have hw := hw.1 cd9
          refine lv_iconst (v := 0) hx hb dX6_move_92 (by decide) ?_
          exact J93 yn yt yb za zs x1 x2 x3 x4 x5 (0 : Int32) _ _ _ hz_x4 hz_x5 hP hD hS hl hw
        · have hw := hw.2 cd9
          refine lv_iconst (v := 3) hx hb dX6_move_88 (by decide) ?_
          refine lv_goto (tgt := 93) hx hb dX6_move_89 (by decide) ?_
          exact J93 yn yt yb za zs x1 x2 x3 x4 x5 (3 : Int32) _ _ _ hz_x4 hz_x5 hP hD hS hl hw
      · have hw := hw.2 cd6
        refine lv_iconst (v := 2) hx hb dX6_move_67 (by decide) ?_
        refine lv_goto (tgt := 93) hx hb dX6_move_68 (by decide) ?_
        exact J93 yn yt yb za zs x1 x2 x3 x4 x5 (2 : Int32) _ _ _ hz_x4 hz_x5 hP hD hS hl hw
    · have hw := hw.2 cd5
      refine lv_iconst (v := 1) hx hb dX6_move_58 (by decide) ?_
      refine lv_goto (tgt := 93) hx hb dX6_move_59 (by decide) ?_
      exact J93 yn yt yb za zs x1 x2 x3 x4 x5 (1 : Int32) _ _ _ hz_x4 hz_x5 hP hD hS hl hw
  unfold wn_X6_move at hw
  refine lv_aload_n hx hb dX6_move_0 rfl (lv_at hl 0 rfl) ?_
  refine lv_iload_n hx hb dX6_move_1 rfl (lv_at hl 1 rfl) ?_
  refine kcR_i (kr_V [] ⟨hx, hb, hml, hown, hts⟩ (cn_X6_isThere l G qy qyn qyt qyu qyf qyr qyb qyk qyi qyx yn yt yu yf yr yb yk yi yx za zs zl zt zg zr zm a1 hw H.size) (cwV 1 hts gX6_move_X6_isThere rfl rfl rfl (by decide +kernel) ⟨Nat.le_of_ble_eq_true rfl, Nat.le_of_ble_eq_true rfl⟩) hK hG hP hD hS hA [0, 1, 2, 3, 4, 5, 6, 7, 8, 9] rfl rfl 6 0 rfl rfl rfl hl.1 rfl (Nat.le_of_ble_eq_true rfl) dX6_move_2 ⟨Nat.le_of_ble_eq_true rfl, Nat.le_of_ble_eq_true rfl⟩) hP hD hS hA [0, 1, 2, 3, 4, 5, 6, 7, 8, 9] rfl (fun r1 u H locs hw hP hS => ?_)
  try dsimp only at hw
  obtain ⟨hz_r1, hw⟩ := hw
  refine lv_istore (lv' := [(4, .int r1), (0, .ref qy), (1, .int a1), (2, .int a2), (3, .int a3)]) hx hb dX6_move_5 hl (by decide) rfl (fun ls hl => ?_)
  refine lv_iload_n hx hb dX6_move_7 rfl (lv_at hl 3 rfl) ?_
  refine lv_iload_n hx hb dX6_move_8 rfl (lv_at hl 4 rfl) ?_
  refine kcR_i (kr_S [] ⟨hx, hb, hml, hown, hts⟩ (cn_X6_isTime l G a2 a3 hw H.size) (va_cwS 2 hts gX6_move_X6_isTime rfl rfl rfl (by decide +kernel) ⟨Nat.le_of_ble_eq_true rfl, Nat.le_of_ble_eq_true rfl⟩) hK hG hP hD hS hA [] rfl rfl rfl hl.1 rfl (Nat.le_of_ble_eq_true rfl) dX6_move_9 ⟨Nat.le_of_ble_eq_true rfl, Nat.le_of_ble_eq_true rfl⟩) hP hD hS hA [] rfl (fun r2 u H locs hw hP hS => ?_)
  try dsimp only at hw
  obtain ⟨hz_r2, hw⟩ := hw
  refine lv_istore (lv' := [(5, .int r2), (4, .int r1), (0, .ref qy), (1, .int a1), (2, .int a2), (3, .int a3)]) hx hb dX6_move_12 hl (by decide) rfl (fun ls hl => ?_)
  refine lv_aload_n hx hb dX6_move_14 rfl (lv_at hl 2 rfl) ?_
  refine va_get (D := gD G) (ci := 6) (v := .ref qyn) (C := RX6) (T := TX6) (N := 16) hx hb hts k_X6_move_inX6 hown hK hP 0 rfl rfl 1 (by decide) (hts _ k_X6_move_f7) (fun _ h9 => h9) rfl dX6_move_15 ?_
  refine lv_aload_n hx hb dX6_move_18 rfl (lv_at hl 2 rfl) ?_
  refine va_get (D := gD G) (ci := 6) (v := .ref qyt) (C := RX6) (T := TX6) (N := 16) hx hb hts k_X6_move_inX6 hown hK hP 0 rfl rfl 2 (by decide) (hts _ k_X6_move_f13) (fun _ h9 => h9) rfl dX6_move_19 ?_
  refine kc_v (kr_S [] ⟨hx, hb, hml, hown, hts⟩ (cn_X6_copy l G qyn qyt yn yt hw H.size) (va_cwS 2 hts gX6_move_X6_copy rfl rfl rfl (by decide +kernel) ⟨Nat.le_of_ble_eq_true rfl, Nat.le_of_ble_eq_true rfl⟩) hK hG hP hD hS hA [1, 2] rfl rfl rfl hl.1 rfl (Nat.le_of_ble_eq_true rfl) dX6_move_22 ⟨Nat.le_of_ble_eq_true rfl, Nat.le_of_ble_eq_true rfl⟩) hP hD hS hA [1, 2] [0, 3, 4, 5, 6, 7, 8, 9] rfl rfl rfl (by decide) (fun u H locs hw hP hD hS => ?_)
  obtain ⟨vv_3, rfl⟩ : ∃ z, z = u := ⟨_, rfl⟩
  try dsimp only at hw
  have hP := hP.sub (ws' := (w0_X6_move G qy qyn qyt qyu qyf qyr qyb qyk qyi qyx yn vv_3 yu yf yr yb yk yi yx za zs zl zt zg zr zm)) [0, 8, 9, 1, 2, 3, 4, 5, 6, 7] rfl
  have hD := hD.sub (ws' := (w0_X6_move G qy qyn qyt qyu qyf qyr qyb qyk qyi qyx yn vv_3 yu yf yr yb yk yi yx za zs zl zt zg zr zm)) [0, 8, 9, 1, 2, 3, 4, 5, 6, 7] rfl rfl
  refine lv_iload hx hb dX6_move_25 (lv_at hl 1 rfl) ?_
  refine lv_if_eq (tgt := 52) hx hb dX6_move_27 (by decide) (fun cd4 => ?_) (fun cd4 => ?_)
  · have hw := hw.1 cd4
    exact J52 yn vv_3 yb za zs a1 a2 a3 r1 r2 _ _ _ hz_r1 hz_r2 hP hD hS (lv_sub hl [2, 3, 4, 5, 1, 0] rfl) hw
  · have hw := hw.2 cd4
    refine lv_iload hx hb dX6_move_30 (lv_at hl 0 rfl) ?_
    refine lv_if_eq (tgt := 52) hx hb dX6_move_32 (by decide) (fun cd20 => ?_) (fun cd20 => ?_)
    · have hw := hw.1 cd20
      exact J52 yn vv_3 yb za zs a1 a2 a3 r1 r2 _ _ _ hz_r1 hz_r2 hP hD hS (lv_sub hl [2, 3, 4, 5, 1, 0] rfl) hw
    · have hw := hw.2 cd20
      refine lv_aload_n hx hb dX6_move_35 rfl (lv_at hl 2 rfl) ?_
      refine va_get (D := gD G) (ci := 6) (v := .ref qyt) (C := RX6) (T := TX6) (N := 16) hx hb hts k_X6_move_inX6 hown hK hP 0 rfl rfl 2 (by decide) (hts _ k_X6_move_f13) (fun _ h9 => h9) rfl dX6_move_36 ?_
      refine lv_iload_n hx hb dX6_move_39 rfl (lv_at hl 3 rfl) ?_
      refine lv_iload_n hx hb dX6_move_40 rfl (lv_at hl 4 rfl) ?_
      obtain ⟨h21, hw⟩ := hw
      refine va_iast hx hb hK hP hD hS 2 0 rfl rfl h21 dX6_move_41 (fun H locs hP hD hS => ?_)
      have hP : va_P (gD G) vwCl (w0_X6_move G qy qyn qyt qyu qyf qyr qyb qyk qyi qyx yn (upd vv_3 a1.toNatClampNeg a2) yu yf yr yb yk yi yx za zs zl zt zg zr zm) H := hP
      have hD : va_D A (w0_X6_move G qy qyn qyt qyu qyf qyr qyb qyk qyi qyx yn (upd vv_3 a1.toNatClampNeg a2) yu yf yr yb yk yi yx za zs zl zt zg zr zm) := hD
      refine lv_aload_n hx hb dX6_move_42 rfl (lv_at hl 2 rfl) ?_
      refine va_get (D := gD G) (ci := 6) (v := .ref qyt) (C := RX6) (T := TX6) (N := 16) hx hb hts k_X6_move_inX6 hown hK hP 0 rfl rfl 2 (by decide) (hts _ k_X6_move_f13) (fun _ h9 => h9) rfl dX6_move_43 ?_
      refine lv_bipush (v := 14) hx hb dX6_move_46 (by decide) ?_
      refine lv_iload_n hx hb dX6_move_48 rfl (lv_at hl 3 rfl) ?_
      refine lv_iadd hx hb dX6_move_49 ?_
      refine lv_iload_n hx hb dX6_move_50 rfl (lv_at hl 5 rfl) ?_
      obtain ⟨h22, hw⟩ := hw
      refine va_iast hx hb hK hP hD hS 2 0 rfl rfl h22 dX6_move_51 (fun H locs hP hD hS => ?_)
      have hP : va_P (gD G) vwCl (w0_X6_move G qy qyn qyt qyu qyf qyr qyb qyk qyi qyx yn (upd (upd vv_3 a1.toNatClampNeg a2) ((14 : Int32) + a1).toNatClampNeg a3) yu yf yr yb yk yi yx za zs zl zt zg zr zm) H := hP
      have hD : va_D A (w0_X6_move G qy qyn qyt qyu qyf qyr qyb qyk qyi qyx yn (upd (upd vv_3 a1.toNatClampNeg a2) ((14 : Int32) + a1).toNatClampNeg a3) yu yf yr yb yk yi yx za zs zl zt zg zr zm) := hD
      exact J52 yn (upd (upd vv_3 a1.toNatClampNeg a2) ((14 : Int32) + a1).toNatClampNeg a3) yb za zs a1 a2 a3 r1 r2 _ _ _ hz_r1 hz_r2 hP hD hS (lv_sub hl [2, 3, 4, 5, 1, 0] rfl) hw

abbrev w0_X6_changeFame (G : mG) (qy : Nat) (qyn : Nat) (qyt : Nat) (qyu : Nat) (qyf : Nat) (qyr : Nat) (qyb : Nat) (qyk : Nat) (qyi : Nat) (qyx : Nat) (yn : Nat → Int32) (yt : Nat → Int32) (yu : Nat → Int32) (yf : Nat → Int32) (yr : Nat → Int32) (yb : Nat → Int32) (yk : Nat → Int32) (yi : Nat → Int32) (yx : Nat → Int32) (za : Int32) (zs : Int32) (zl : Int32) (zt : Int32) (zg : Int32) (zr : Int32) (zm : Int32) : va_W := [(qy, .inr (6, [.int za, .ref qyn, .ref qyt, .ref qyu, .ref qyf, .ref qyr, .ref qyb, .int zs, .ref qyk, .ref qyi, .ref qyx, .int zl, .int zt, .int zg, .int zr, .int zm])), (qyn, .inl (gI G, (45, .inl yn))), (qyt, .inl (gI G, (45, .inl yt))), (qyu, .inl (gI G, (16384, .inl yu))), (qyf, .inl (gI G, (14, .inl yf))), (qyr, .inl (gI G, (14, .inl yr))), (qyb, .inl (gI G, (270, .inl yb))), (qyk, .inl (gI G, (90, .inl yk))), (qyi, .inl (gZ G, (2, .inl yi))), (qyx, .inl (gI G, (60, .inl yx)))]
set_option maxRecDepth 100000 in
theorem k_X6_changeFame_c77 : Cond.constantLong RX6 77 (50) ∈ wsX6_changeFame := by decide +kernel
set_option maxRecDepth 100000 in
theorem k_X6_changeFame_inX6 : ∀ w ∈ u_ws RX6 TX6 16, w ∈ wsX6_changeFame := by decide +kernel
set_option maxRecDepth 100000 in
theorem k_X6_changeFame_f7 : Cond.fieldLink RX6 7 "RehearsalRoomModel" "now" "[I" ∈ wsX6_changeFame := by decide +kernel
set_option maxHeartbeats 8000000 in
set_option maxRecDepth 100000 in
theorem cn_X6_changeFame (l : Launch) (G : mG) (qy : Nat) (qyn : Nat) (qyt : Nat) (qyu : Nat) (qyf : Nat) (qyr : Nat) (qyb : Nat) (qyk : Nat) (qyi : Nat) (qyx : Nat) (yn : Nat → Int32) (yt : Nat → Int32) (yu : Nat → Int32) (yf : Nat → Int32) (yr : Nat → Int32) (yb : Nat → Int32) (yk : Nat → Int32) (yi : Nat → Int32) (yx : Nat → Int32) (za : Int32) (zs : Int32) (zl : Int32) (zt : Int32) (zg : Int32) (zr : Int32) (zm : Int32) (a1 : Int32) (a2 : Int32) {Q : Int32 → (Nat → Int32) → (Nat → Int32) → Int32 → Int32 → Prop} (hw : wn_X6_changeFame yn yb za zs a1 a2 Q) (sz : Nat) :
    Met l yX6_changeFame wsX6_changeFame ({ frames := 2, cells := 0, slots := 0, locals := 46 } : Room) (va_Pc [.ref qy, .int a1, .int a2] (mPre G (w0_X6_changeFame G qy qyn qyt qyu qyf qyr qyb qyk qyi qyx yn yt yu yf yr yb yk yi yx za zs zl zt zg zr zm) sz)) (va_Qi (fun (r : Int32) (u : (Nat → Int32) × (Nat → Int32) × Int32 × Int32) => Q r u.1 u.2.1 u.2.2.1 u.2.2.2) (mBk G (va_A (w0_X6_changeFame G qy qyn qyt qyu qyf qyr qyb qyk qyi qyx yn yt yu yf yr yb yk yi yx za zs zl zt zg zr zm) sz) (fun (u : (Nat → Int32) × (Nat → Int32) × Int32 × Int32) => (w0_X6_changeFame G qy qyn qyt qyu qyf qyr qyb qyk qyi qyx u.1 yt yu yf yr u.2.1 yk yi yx u.2.2.1 u.2.2.2 zl zt zg zr zm))) (va_A (w0_X6_changeFame G qy qyn qyt qyu qyf qyr qyb qyk qyi qyx yn yt yu yf yr yb yk yi yx za zs zl zt zg zr zm) sz)) 0 0 (va_A (w0_X6_changeFame G qy qyn qyt qyu qyf qyr qyb qyk qyi qyx yn yt yu yf yr yb yk yi yx za zs zl zt zg zr zm) sz) := by
  refine ms_i (cc := cX6_changeFame) (maxL := 4) (ret := some .int) (post := (fun (r : Int32) (u : (Nat → Int32) × (Nat → Int32) × Int32 × Int32) => Q r u.1 u.2.1 u.2.2.1 u.2.2.2)) (w1 := (fun (u : (Nat → Int32) × (Nat → Int32) × Int32 × Int32) => (w0_X6_changeFame G qy qyn qyt qyu qyf qyr qyb qyk qyi qyx u.1 yt yu yf yr u.2.1 yk yi yx u.2.2.1 u.2.2.2 zl zt zg zr zm))) (by decide) rfl (Nat.le_of_ble_eq_true rfl) ?_ sz
  intro p e s m below meth c A ls H locs hx hb hr hml hown hts hlocks hK hG hP hD hS hA hl
  have hown : s.vm.findClass RX6 = some m.cls := hown
  have hl : lv_has ls 4 [(0, .ref qy), (1, .int a1), (2, .int a2)] := hl
  have J30 : ∀ (yn : Nat → Int32) (yb : Nat → Int32) (za : Int32) (zs : Int32) (x1 : Int32) (x2 : Int32) (y1 : Int32) (H : Heap) (locs : List Loc) (ls : Array Slot), va_P (gD G) vwCl (w0_X6_changeFame G qy qyn qyt qyu qyf qyr qyb qyk qyi qyx yn yt yu yf yr yb yk yi yx za zs zl zt zg zr zm) H → va_D A (w0_X6_changeFame G qy qyn qyt qyu qyf qyr qyb qyk qyi qyx yn yt yu yf yr yb yk yi yx za zs zl zt zg zr zm) → va_S A s.heap H locs → lv_has ls 4 [(0, .ref qy), (1, .int x1), (2, .int x2)] → wj_n_X6_changeFame_30 Q yn yb za zs x1 x2 y1 → W p l e ({ frames := 2, cells := 0, slots := 0, locals := 46 } : Room) s m ([.ref qy, .int a1, .int a2] : List Value).toArray below meth c H locs 0 0 (MQ below (va_Qi (fun (r : Int32) (u : (Nat → Int32) × (Nat → Int32) × Int32 × Int32) => Q r u.1 u.2.1 u.2.2.1 u.2.2.2) (mBk G A (fun (u : (Nat → Int32) × (Nat → Int32) × Int32 × Int32) => (w0_X6_changeFame G qy qyn qyt qyu qyf qyr qyb qyk qyi qyx u.1 yt yu yf yr u.2.1 yk yi yx u.2.2.1 u.2.2.2 zl zt zg zr zm))) A) ([.ref qy, .int a1, .int a2] : List Value).toArray s 0 0 A) (F0 m 30 ls [.int y1, .ref qy]) := by
    intro yn yb za zs x1 x2 y1 H locs ls hP hD hS hl hw
    unfold wj_n_X6_changeFame_30 at hw
    refine kc_i (kr_V [] ⟨hx, hb, hml, hown, hts⟩ (cn_X6_refused l G qy qyn qyt qyu qyf qyr qyb qyk qyi qyx yn yt yu yf yr yb yk yi yx za zs zl zt zg zr zm y1 hw H.size) (cwV 1 hts gX6_changeFame_X6_refused rfl rfl rfl (by decide +kernel) ⟨Nat.le_of_ble_eq_true rfl, Nat.le_of_ble_eq_true rfl⟩) hK hG hP hD hS hA [0, 1, 2, 3, 4, 5, 6, 7, 8, 9] rfl rfl 6 0 rfl rfl rfl hl.1 rfl (Nat.le_of_ble_eq_true rfl) dX6_changeFame_30 ⟨Nat.le_of_ble_eq_true rfl, Nat.le_of_ble_eq_true rfl⟩) hP hD hS hA [0, 1, 2, 3, 4, 5, 6, 7, 8, 9] [] rfl rfl rfl (by decide) (fun r5 u H locs hw hP hD hS => ?_)
    obtain ⟨za_6, rfl⟩ : ∃ z, z = u := ⟨_, rfl⟩
    try dsimp only at hw
    have hP := hP.sub (ws' := (w0_X6_changeFame G qy qyn qyt qyu qyf qyr qyb qyk qyi qyx yn yt yu yf yr yb yk yi yx za_6 zs zl zt zg zr zm)) [0, 1, 2, 3, 4, 5, 6, 7, 8, 9] rfl
    have hD := hD.sub (ws' := (w0_X6_changeFame G qy qyn qyt qyu qyf qyr qyb qyk qyi qyx yn yt yu yf yr yb yk yi yx za_6 zs zl zt zg zr zm)) [0, 1, 2, 3, 4, 5, 6, 7, 8, 9] rfl rfl
    obtain ⟨hz_r5, hw⟩ := hw
    refine lv_if_eq (tgt := 38) hx hb dX6_changeFame_33 (by decide) (fun cd7 => ?_) (fun cd7 => ?_)
    · have hw := hw.1 cd7
      refine lv_aload_n hx hb dX6_changeFame_38 rfl (lv_at hl 0 rfl) ?_
      refine kc_v (kr_V [] ⟨hx, hb, hml, hown, hts⟩ (cn_X6_save l G qy qyn qyt qyu qyf qyr qyb qyk qyi qyx yn yt yu yf yr yb yk yi yx za_6 zs zl zt zg zr zm hw H.size) (cwV 0 hts gX6_changeFame_X6_save rfl rfl rfl (by decide +kernel) ⟨Nat.le_of_ble_eq_true rfl, Nat.le_of_ble_eq_true rfl⟩) hK hG hP hD hS hA [0, 1, 2, 3, 4, 5, 6, 7, 8, 9] rfl rfl 6 0 rfl rfl rfl hl.1 rfl (Nat.le_of_ble_eq_true rfl) dX6_changeFame_39 ⟨Nat.le_of_ble_eq_true rfl, Nat.le_of_ble_eq_true rfl⟩) hP hD hS hA [0, 1, 2, 3, 4, 5, 6, 7, 8, 9] [] rfl rfl rfl (by decide) (fun u H locs hw hP hD hS => ?_)
      obtain ⟨yb_8, zs_9⟩ := u
      try dsimp only at hw
      have hP := hP.sub (ws' := (w0_X6_changeFame G qy qyn qyt qyu qyf qyr qyb qyk qyi qyx yn yt yu yf yr yb_8 yk yi yx za_6 zs_9 zl zt zg zr zm)) [0, 1, 2, 3, 4, 5, 6, 7, 8, 9] rfl
      have hD := hD.sub (ws' := (w0_X6_changeFame G qy qyn qyt qyu qyf qyr qyb qyk qyi qyx yn yt yu yf yr yb_8 yk yi yx za_6 zs_9 zl zt zg zr zm)) [0, 1, 2, 3, 4, 5, 6, 7, 8, 9] rfl rfl
      refine lv_aload_n hx hb dX6_changeFame_42 rfl (lv_at hl 0 rfl) ?_
      refine va_get (D := gD G) (ci := 6) (v := .ref qyn) (C := RX6) (T := TX6) (N := 16) hx hb hts k_X6_changeFame_inX6 hown hK hP 0 rfl rfl 1 (by decide) (hts _ k_X6_changeFame_f7) (fun _ h9 => h9) rfl dX6_changeFame_43 ?_
      refine lv_bipush (v := 28) hx hb dX6_changeFame_46 (by decide) ?_
      refine lv_iload_n hx hb dX6_changeFame_48 rfl (lv_at hl 1 rfl) ?_
      refine lv_iadd hx hb dX6_changeFame_49 ?_
      obtain ⟨h10, hw⟩ := hw
      refine va_iald hx hb hK hP 1 0 rfl rfl h10 dX6_changeFame_50 ?_
      refine lv_istore_n (lv' := [(3, .int (yn ((28 : Int32) + x1).toNatClampNeg)), (0, .ref qy), (1, .int x1), (2, .int x2)]) hx hb dX6_changeFame_51 rfl hl (by decide) rfl (fun ls hl => ?_)
      refine lv_aload_n hx hb dX6_changeFame_52 rfl (lv_at hl 1 rfl) ?_
      refine va_get (D := gD G) (ci := 6) (v := .ref qyn) (C := RX6) (T := TX6) (N := 16) hx hb hts k_X6_changeFame_inX6 hown hK hP 0 rfl rfl 1 (by decide) (hts _ k_X6_changeFame_f7) (fun _ h9 => h9) rfl dX6_changeFame_53 ?_
      refine lv_bipush (v := 28) hx hb dX6_changeFame_56 (by decide) ?_
      refine lv_iload_n hx hb dX6_changeFame_58 rfl (lv_at hl 2 rfl) ?_
      refine lv_iadd hx hb dX6_changeFame_59 ?_
      refine lv_iload_n hx hb dX6_changeFame_60 rfl (lv_at hl 3 rfl) ?_
      obtain ⟨h11, hw⟩ := hw
      refine va_iast hx hb hK hP hD hS 1 0 rfl rfl h11 dX6_changeFame_61 (fun H locs hP hD hS => ?_)
      have hP : va_P (gD G) vwCl (w0_X6_changeFame G qy qyn qyt qyu qyf qyr qyb qyk qyi qyx (upd yn ((28 : Int32) + x1).toNatClampNeg x2) yt yu yf yr yb_8 yk yi yx za_6 zs_9 zl zt zg zr zm) H := hP
      have hD : va_D A (w0_X6_changeFame G qy qyn qyt qyu qyf qyr qyb qyk qyi qyx (upd yn ((28 : Int32) + x1).toNatClampNeg x2) yt yu yf yr yb_8 yk yi yx za_6 zs_9 zl zt zg zr zm) := hD
      refine lv_iload_n hx hb dX6_changeFame_62 rfl (lv_at hl 0 rfl) ?_
      exact fin_i ((upd yn ((28 : Int32) + x1).toNatClampNeg x2), yb_8, za_6, zs_9) hx hb hr hlocks hK hS hP hD hw dX6_changeFame_63
    · have hw := hw.2 cd7
      refine lv_iconst (v := 0) hx hb dX6_changeFame_36 (by decide) ?_
      exact fin_i (yn, yb, za_6, zs) hx hb hr hlocks hK hS hP hD hw dX6_changeFame_37
  unfold wn_X6_changeFame at hw
  refine lv_aload_n hx hb dX6_changeFame_0 rfl (lv_at hl 0 rfl) ?_
  refine lv_aload_n hx hb dX6_changeFame_1 rfl (lv_at hl 0 rfl) ?_
  refine lv_iload_n hx hb dX6_changeFame_2 rfl (lv_at hl 1 rfl) ?_
  refine kcR_i (kr_V [.ref qy] ⟨hx, hb, hml, hown, hts⟩ (cn_X6_isThere l G qy qyn qyt qyu qyf qyr qyb qyk qyi qyx yn yt yu yf yr yb yk yi yx za zs zl zt zg zr zm a1 hw H.size) (cwV 1 hts gX6_changeFame_X6_isThere rfl rfl rfl (by decide +kernel) ⟨Nat.le_of_ble_eq_true rfl, Nat.le_of_ble_eq_true rfl⟩) hK hG hP hD hS hA [0, 1, 2, 3, 4, 5, 6, 7, 8, 9] rfl rfl 6 0 rfl rfl rfl hl.1 rfl (Nat.le_of_ble_eq_true rfl) dX6_changeFame_3 ⟨Nat.le_of_ble_eq_true rfl, Nat.le_of_ble_eq_true rfl⟩) hP hD hS hA [0, 1, 2, 3, 4, 5, 6, 7, 8, 9] rfl (fun r1 u H locs hw hP hS => ?_)
  try dsimp only at hw
  obtain ⟨hz_r1, hw⟩ := hw
  refine lv_if_ne (tgt := 13) hx hb dX6_changeFame_6 (by decide) (fun cd2 => ?_) (fun cd2 => ?_)
  · have hw := hw.1 cd2
    refine lv_iload_n hx hb dX6_changeFame_13 rfl (lv_at hl 2 rfl) ?_
    refine lv_i2l hx hb dX6_changeFame_14 rfl ?_
    refine lv_lconst (v := 1) hx hb dX6_changeFame_15 (by decide) ?_
    refine lv_ldc2 (v := 50) hx hb hown (hts _ k_X6_changeFame_c77) dX6_changeFame_16 ?_
    refine kcR_i (kr_S [.ref qy] ⟨hx, hb, hml, hown, hts⟩ (cn_X6_in l G a2.toInt64 (1 : Int64) (50 : Int64) hw H.size) (va_cwS 3 hts gX6_changeFame_X6_in rfl rfl rfl (by decide +kernel) ⟨Nat.le_of_ble_eq_true rfl, Nat.le_of_ble_eq_true rfl⟩) hK hG hP hD hS hA [] rfl rfl rfl hl.1 rfl (Nat.le_of_ble_eq_true rfl) dX6_changeFame_19 ⟨Nat.le_of_ble_eq_true rfl, Nat.le_of_ble_eq_true rfl⟩) hP hD hS hA [] rfl (fun r3 u H locs hw hP hS => ?_)
    try dsimp only at hw
    obtain ⟨hz_r3, hw⟩ := hw
    refine lv_if_ne (tgt := 29) hx hb dX6_changeFame_22 (by decide) (fun cd4 => ?_) (fun cd4 => ?_)
    · have hw := hw.1 cd4
      refine lv_iconst (v := 0) hx hb dX6_changeFame_29 (by decide) ?_
      exact J30 yn yb za zs a1 a2 (0 : Int32) _ _ _ hP hD hS hl hw
    · have hw := hw.2 cd4
      refine lv_iconst (v := 2) hx hb dX6_changeFame_25 (by decide) ?_
      refine lv_goto (tgt := 30) hx hb dX6_changeFame_26 (by decide) ?_
      exact J30 yn yb za zs a1 a2 (2 : Int32) _ _ _ hP hD hS hl hw
  · have hw := hw.2 cd2
    refine lv_iconst (v := 1) hx hb dX6_changeFame_9 (by decide) ?_
    refine lv_goto (tgt := 30) hx hb dX6_changeFame_10 (by decide) ?_
    exact J30 yn yb za zs a1 a2 (1 : Int32) _ _ _ hP hD hS hl hw

abbrev w0_X6_changePause (G : mG) (qy : Nat) (qyn : Nat) (qyt : Nat) (qyu : Nat) (qyf : Nat) (qyr : Nat) (qyb : Nat) (qyk : Nat) (qyi : Nat) (qyx : Nat) (yn : Nat → Int32) (yt : Nat → Int32) (yu : Nat → Int32) (yf : Nat → Int32) (yr : Nat → Int32) (yb : Nat → Int32) (yk : Nat → Int32) (yi : Nat → Int32) (yx : Nat → Int32) (za : Int32) (zs : Int32) (zl : Int32) (zt : Int32) (zg : Int32) (zr : Int32) (zm : Int32) : va_W := [(qy, .inr (6, [.int za, .ref qyn, .ref qyt, .ref qyu, .ref qyf, .ref qyr, .ref qyb, .int zs, .ref qyk, .ref qyi, .ref qyx, .int zl, .int zt, .int zg, .int zr, .int zm])), (qyn, .inl (gI G, (45, .inl yn))), (qyt, .inl (gI G, (45, .inl yt))), (qyu, .inl (gI G, (16384, .inl yu))), (qyf, .inl (gI G, (14, .inl yf))), (qyr, .inl (gI G, (14, .inl yr))), (qyb, .inl (gI G, (270, .inl yb))), (qyk, .inl (gI G, (90, .inl yk))), (qyi, .inl (gZ G, (2, .inl yi))), (qyx, .inl (gI G, (60, .inl yx)))]
set_option maxRecDepth 100000 in
theorem k_X6_changePause_c104 : Cond.constantLong RX6 104 (8) ∈ wsX6_changePause := by decide +kernel
set_option maxRecDepth 100000 in
theorem k_X6_changePause_inX6 : ∀ w ∈ u_ws RX6 TX6 16, w ∈ wsX6_changePause := by decide +kernel
set_option maxRecDepth 100000 in
theorem k_X6_changePause_f7 : Cond.fieldLink RX6 7 "RehearsalRoomModel" "now" "[I" ∈ wsX6_changePause := by decide +kernel
set_option maxRecDepth 100000 in
theorem k_X6_changePause_f13 : Cond.fieldLink RX6 13 "RehearsalRoomModel" "trial" "[I" ∈ wsX6_changePause := by decide +kernel
set_option maxHeartbeats 8000000 in
set_option maxRecDepth 100000 in
theorem cn_X6_changePause (l : Launch) (G : mG) (qy : Nat) (qyn : Nat) (qyt : Nat) (qyu : Nat) (qyf : Nat) (qyr : Nat) (qyb : Nat) (qyk : Nat) (qyi : Nat) (qyx : Nat) (yn : Nat → Int32) (yt : Nat → Int32) (yu : Nat → Int32) (yf : Nat → Int32) (yr : Nat → Int32) (yb : Nat → Int32) (yk : Nat → Int32) (yi : Nat → Int32) (yx : Nat → Int32) (za : Int32) (zs : Int32) (zl : Int32) (zt : Int32) (zg : Int32) (zr : Int32) (zm : Int32) (a1 : Int32) {Q : Int32 → (Nat → Int32) → (Nat → Int32) → (Nat → Int32) → Int32 → Int32 → Prop} (hw : wn_X6_changePause yn yt yb za zs a1 Q) (sz : Nat) :
    Met l yX6_changePause wsX6_changePause ({ frames := 3, cells := 0, slots := 0, locals := 70 } : Room) (va_Pc [.ref qy, .int a1] (mPre G (w0_X6_changePause G qy qyn qyt qyu qyf qyr qyb qyk qyi qyx yn yt yu yf yr yb yk yi yx za zs zl zt zg zr zm) sz)) (va_Qi (fun (r : Int32) (u : (Nat → Int32) × (Nat → Int32) × (Nat → Int32) × Int32 × Int32) => Q r u.1 u.2.1 u.2.2.1 u.2.2.2.1 u.2.2.2.2) (mBk G (va_A (w0_X6_changePause G qy qyn qyt qyu qyf qyr qyb qyk qyi qyx yn yt yu yf yr yb yk yi yx za zs zl zt zg zr zm) sz) (fun (u : (Nat → Int32) × (Nat → Int32) × (Nat → Int32) × Int32 × Int32) => (w0_X6_changePause G qy qyn qyt qyu qyf qyr qyb qyk qyi qyx u.1 u.2.1 yu yf yr u.2.2.1 yk yi yx u.2.2.2.1 u.2.2.2.2 zl zt zg zr zm))) (va_A (w0_X6_changePause G qy qyn qyt qyu qyf qyr qyb qyk qyi qyx yn yt yu yf yr yb yk yi yx za zs zl zt zg zr zm) sz)) 0 0 (va_A (w0_X6_changePause G qy qyn qyt qyu qyf qyr qyb qyk qyi qyx yn yt yu yf yr yb yk yi yx za zs zl zt zg zr zm) sz) := by
  refine ms_i (cc := cX6_changePause) (maxL := 4) (ret := some .int) (post := (fun (r : Int32) (u : (Nat → Int32) × (Nat → Int32) × (Nat → Int32) × Int32 × Int32) => Q r u.1 u.2.1 u.2.2.1 u.2.2.2.1 u.2.2.2.2)) (w1 := (fun (u : (Nat → Int32) × (Nat → Int32) × (Nat → Int32) × Int32 × Int32) => (w0_X6_changePause G qy qyn qyt qyu qyf qyr qyb qyk qyi qyx u.1 u.2.1 yu yf yr u.2.2.1 yk yi yx u.2.2.2.1 u.2.2.2.2 zl zt zg zr zm))) (by decide) rfl (Nat.le_of_ble_eq_true rfl) ?_ sz
  intro p e s m below meth c A ls H locs hx hb hr hml hown hts hlocks hK hG hP hD hS hA hl
  have hown : s.vm.findClass RX6 = some m.cls := hown
  have hl : lv_has ls 4 [(0, .ref qy), (1, .int a1)] := hl
  have J68 : ∀ (yn : Nat → Int32) (yt : Nat → Int32) (yb : Nat → Int32) (za : Int32) (zs : Int32) (x1 : Int32) (x2 : Int32) (y1 : Int32) (H : Heap) (locs : List Loc) (ls : Array Slot), (x2 = 0 ∨ x2 = 1) → va_P (gD G) vwCl (w0_X6_changePause G qy qyn qyt qyu qyf qyr qyb qyk qyi qyx yn yt yu yf yr yb yk yi yx za zs zl zt zg zr zm) H → va_D A (w0_X6_changePause G qy qyn qyt qyu qyf qyr qyb qyk qyi qyx yn yt yu yf yr yb yk yi yx za zs zl zt zg zr zm) → va_S A s.heap H locs → lv_has ls 4 [(0, .ref qy), (1, .int x1), (2, .int x2)] → wj_n_X6_changePause_68 Q yn yt yb za zs x1 x2 y1 → W p l e ({ frames := 3, cells := 0, slots := 0, locals := 70 } : Room) s m ([.ref qy, .int a1] : List Value).toArray below meth c H locs 0 0 (MQ below (va_Qi (fun (r : Int32) (u : (Nat → Int32) × (Nat → Int32) × (Nat → Int32) × Int32 × Int32) => Q r u.1 u.2.1 u.2.2.1 u.2.2.2.1 u.2.2.2.2) (mBk G A (fun (u : (Nat → Int32) × (Nat → Int32) × (Nat → Int32) × Int32 × Int32) => (w0_X6_changePause G qy qyn qyt qyu qyf qyr qyb qyk qyi qyx u.1 u.2.1 yu yf yr u.2.2.1 yk yi yx u.2.2.2.1 u.2.2.2.2 zl zt zg zr zm))) A) ([.ref qy, .int a1] : List Value).toArray s 0 0 A) (F0 m 68 ls [.int y1, .ref qy]) := by
    intro yn yt yb za zs x1 x2 y1 H locs ls hz_x2 hP hD hS hl hw
    unfold wj_n_X6_changePause_68 at hw
    refine kc_i (kr_V [] ⟨hx, hb, hml, hown, hts⟩ (cn_X6_refused l G qy qyn qyt qyu qyf qyr qyb qyk qyi qyx yn yt yu yf yr yb yk yi yx za zs zl zt zg zr zm y1 hw H.size) (cwV 1 hts gX6_changePause_X6_refused rfl rfl rfl (by decide +kernel) ⟨Nat.le_of_ble_eq_true rfl, Nat.le_of_ble_eq_true rfl⟩) hK hG hP hD hS hA [0, 1, 2, 3, 4, 5, 6, 7, 8, 9] rfl rfl 6 0 rfl rfl rfl hl.1 rfl (Nat.le_of_ble_eq_true rfl) dX6_changePause_68 ⟨Nat.le_of_ble_eq_true rfl, Nat.le_of_ble_eq_true rfl⟩) hP hD hS hA [0, 1, 2, 3, 4, 5, 6, 7, 8, 9] [] rfl rfl rfl (by decide) (fun r9 u H locs hw hP hD hS => ?_)
    obtain ⟨za_10, rfl⟩ : ∃ z, z = u := ⟨_, rfl⟩
    try dsimp only at hw
    have hP := hP.sub (ws' := (w0_X6_changePause G qy qyn qyt qyu qyf qyr qyb qyk qyi qyx yn yt yu yf yr yb yk yi yx za_10 zs zl zt zg zr zm)) [0, 1, 2, 3, 4, 5, 6, 7, 8, 9] rfl
    have hD := hD.sub (ws' := (w0_X6_changePause G qy qyn qyt qyu qyf qyr qyb qyk qyi qyx yn yt yu yf yr yb yk yi yx za_10 zs zl zt zg zr zm)) [0, 1, 2, 3, 4, 5, 6, 7, 8, 9] rfl rfl
    obtain ⟨hz_r9, hw⟩ := hw
    refine lv_if_eq (tgt := 76) hx hb dX6_changePause_71 (by decide) (fun cd11 => ?_) (fun cd11 => ?_)
    · have hw := hw.1 cd11
      refine lv_aload_n hx hb dX6_changePause_76 rfl (lv_at hl 0 rfl) ?_
      refine kc_v (kr_V [] ⟨hx, hb, hml, hown, hts⟩ (cn_X6_save l G qy qyn qyt qyu qyf qyr qyb qyk qyi qyx yn yt yu yf yr yb yk yi yx za_10 zs zl zt zg zr zm hw H.size) (cwV 0 hts gX6_changePause_X6_save rfl rfl rfl (by decide +kernel) ⟨Nat.le_of_ble_eq_true rfl, Nat.le_of_ble_eq_true rfl⟩) hK hG hP hD hS hA [0, 1, 2, 3, 4, 5, 6, 7, 8, 9] rfl rfl 6 0 rfl rfl rfl hl.1 rfl (Nat.le_of_ble_eq_true rfl) dX6_changePause_77 ⟨Nat.le_of_ble_eq_true rfl, Nat.le_of_ble_eq_true rfl⟩) hP hD hS hA [0, 1, 2, 3, 4, 5, 6, 7, 8, 9] [] rfl rfl rfl (by decide) (fun u H locs hw hP hD hS => ?_)
      obtain ⟨yb_12, zs_13⟩ := u
      try dsimp only at hw
      have hP := hP.sub (ws' := (w0_X6_changePause G qy qyn qyt qyu qyf qyr qyb qyk qyi qyx yn yt yu yf yr yb_12 yk yi yx za_10 zs_13 zl zt zg zr zm)) [0, 1, 2, 3, 4, 5, 6, 7, 8, 9] rfl
      have hD := hD.sub (ws' := (w0_X6_changePause G qy qyn qyt qyu qyf qyr qyb qyk qyi qyx yn yt yu yf yr yb_12 yk yi yx za_10 zs_13 zl zt zg zr zm)) [0, 1, 2, 3, 4, 5, 6, 7, 8, 9] rfl rfl
      refine lv_aload_n hx hb dX6_changePause_80 rfl (lv_at hl 0 rfl) ?_
      refine va_get (D := gD G) (ci := 6) (v := .ref qyn) (C := RX6) (T := TX6) (N := 16) hx hb hts k_X6_changePause_inX6 hown hK hP 0 rfl rfl 1 (by decide) (hts _ k_X6_changePause_f7) (fun _ h9 => h9) rfl dX6_changePause_81 ?_
      refine lv_bipush (v := 43) hx hb dX6_changePause_84 (by decide) ?_
      obtain ⟨h14, hw⟩ := hw
      refine va_iald hx hb hK hP 1 0 rfl rfl h14 dX6_changePause_86 ?_
      refine lv_istore_n (lv' := [(3, .int (yn (43 : Int32).toNatClampNeg)), (0, .ref qy), (1, .int x1), (2, .int x2)]) hx hb dX6_changePause_87 rfl hl (by decide) rfl (fun ls hl => ?_)
      refine lv_aload_n hx hb dX6_changePause_88 rfl (lv_at hl 1 rfl) ?_
      refine va_get (D := gD G) (ci := 6) (v := .ref qyn) (C := RX6) (T := TX6) (N := 16) hx hb hts k_X6_changePause_inX6 hown hK hP 0 rfl rfl 1 (by decide) (hts _ k_X6_changePause_f7) (fun _ h9 => h9) rfl dX6_changePause_89 ?_
      refine lv_bipush (v := 43) hx hb dX6_changePause_92 (by decide) ?_
      refine lv_iload_n hx hb dX6_changePause_94 rfl (lv_at hl 2 rfl) ?_
      obtain ⟨h15, hw⟩ := hw
      refine va_iast hx hb hK hP hD hS 1 0 rfl rfl h15 dX6_changePause_95 (fun H locs hP hD hS => ?_)
      have hP : va_P (gD G) vwCl (w0_X6_changePause G qy qyn qyt qyu qyf qyr qyb qyk qyi qyx (upd yn (43 : Int32).toNatClampNeg x1) yt yu yf yr yb_12 yk yi yx za_10 zs_13 zl zt zg zr zm) H := hP
      have hD : va_D A (w0_X6_changePause G qy qyn qyt qyu qyf qyr qyb qyk qyi qyx (upd yn (43 : Int32).toNatClampNeg x1) yt yu yf yr yb_12 yk yi yx za_10 zs_13 zl zt zg zr zm) := hD
      refine lv_iload_n hx hb dX6_changePause_96 rfl (lv_at hl 0 rfl) ?_
      exact fin_i ((upd yn (43 : Int32).toNatClampNeg x1), yt, yb_12, za_10, zs_13) hx hb hr hlocks hK hS hP hD hw dX6_changePause_97
    · have hw := hw.2 cd11
      refine lv_iconst (v := 0) hx hb dX6_changePause_74 (by decide) ?_
      exact fin_i (yn, yt, yb, za_10, zs) hx hb hr hlocks hK hS hP hD hw dX6_changePause_75
  have J36 : ∀ (yn : Nat → Int32) (yt : Nat → Int32) (yb : Nat → Int32) (za : Int32) (zs : Int32) (x1 : Int32) (x2 : Int32) (y1 : Int32) (y2 : Int32) (H : Heap) (locs : List Loc) (ls : Array Slot), (x2 = 0 ∨ x2 = 1) → va_P (gD G) vwCl (w0_X6_changePause G qy qyn qyt qyu qyf qyr qyb qyk qyi qyx yn yt yu yf yr yb yk yi yx za zs zl zt zg zr zm) H → va_D A (w0_X6_changePause G qy qyn qyt qyu qyf qyr qyb qyk qyi qyx yn yt yu yf yr yb yk yi yx za zs zl zt zg zr zm) → va_S A s.heap H locs → lv_has ls 4 [(0, .ref qy), (1, .int x1), (2, .int x2)] → wj_n_X6_changePause_36 Q yn yt yb za zs x1 x2 y1 y2 → W p l e ({ frames := 3, cells := 0, slots := 0, locals := 70 } : Room) s m ([.ref qy, .int a1] : List Value).toArray below meth c H locs 0 0 (MQ below (va_Qi (fun (r : Int32) (u : (Nat → Int32) × (Nat → Int32) × (Nat → Int32) × Int32 × Int32) => Q r u.1 u.2.1 u.2.2.1 u.2.2.2.1 u.2.2.2.2) (mBk G A (fun (u : (Nat → Int32) × (Nat → Int32) × (Nat → Int32) × Int32 × Int32) => (w0_X6_changePause G qy qyn qyt qyu qyf qyr qyb qyk qyi qyx u.1 u.2.1 yu yf yr u.2.2.1 yk yi yx u.2.2.2.1 u.2.2.2.2 zl zt zg zr zm))) A) ([.ref qy, .int a1] : List Value).toArray s 0 0 A) (F0 m 36 ls [.int y2, .int y1, .ref qyt]) := by
    intro yn yt yb za zs x1 x2 y1 y2 H locs ls hz_x2 hP hD hS hl hw
    unfold wj_n_X6_changePause_36 at hw
    obtain ⟨h4, hw⟩ := hw
    refine va_iast hx hb hK hP hD hS 2 0 rfl rfl h4 dX6_changePause_36 (fun H locs hP hD hS => ?_)
    have hP : va_P (gD G) vwCl (w0_X6_changePause G qy qyn qyt qyu qyf qyr qyb qyk qyi qyx yn (upd yt y1.toNatClampNeg y2) yu yf yr yb yk yi yx za zs zl zt zg zr zm) H := hP
    have hD : va_D A (w0_X6_changePause G qy qyn qyt qyu qyf qyr qyb qyk qyi qyx yn (upd yt y1.toNatClampNeg y2) yu yf yr yb yk yi yx za zs zl zt zg zr zm) := hD
    refine lv_aload_n hx hb dX6_changePause_37 rfl (lv_at hl 0 rfl) ?_
    refine lv_iload_n hx hb dX6_changePause_38 rfl (lv_at hl 2 rfl) ?_
    refine lv_if_ne (tgt := 46) hx hb dX6_changePause_39 (by decide) (fun cd5 => ?_) (fun cd5 => ?_)
    · have hw := hw.1 cd5
      refine lv_aload_n hx hb dX6_changePause_46 rfl (lv_at hl 0 rfl) ?_
      refine va_get (D := gD G) (ci := 6) (v := .ref qyt) (C := RX6) (T := TX6) (N := 16) hx hb hts k_X6_changePause_inX6 hown hK hP 0 rfl rfl 2 (by decide) (hts _ k_X6_changePause_f13) (fun _ h9 => h9) rfl dX6_changePause_47 ?_
      refine lv_aload_n hx hb dX6_changePause_50 rfl (lv_at hl 0 rfl) ?_
      refine va_get (D := gD G) (ci := 6) (v := .ref qyt) (C := RX6) (T := TX6) (N := 16) hx hb hts k_X6_changePause_inX6 hown hK hP 0 rfl rfl 2 (by decide) (hts _ k_X6_changePause_f13) (fun _ h9 => h9) rfl dX6_changePause_51 ?_
      refine lv_bipush (v := 42) hx hb dX6_changePause_54 (by decide) ?_
      obtain ⟨h6, hw⟩ := hw
      refine va_iald hx hb hK hP 2 0 rfl rfl h6 dX6_changePause_56 ?_
      refine kcR_i (kr_S [.ref qy] ⟨hx, hb, hml, hown, hts⟩ (cn_X6_isChoice l G qyt (upd yt y1.toNatClampNeg y2) ((upd yt y1.toNatClampNeg y2) (42 : Int32).toNatClampNeg) hw H.size) (va_cwS 2 hts gX6_changePause_X6_isChoice rfl rfl rfl (by decide +kernel) ⟨Nat.le_of_ble_eq_true rfl, Nat.le_of_ble_eq_true rfl⟩) hK hG hP hD hS hA [2] rfl rfl rfl hl.1 rfl (Nat.le_of_ble_eq_true rfl) dX6_changePause_57 ⟨Nat.le_of_ble_eq_true rfl, Nat.le_of_ble_eq_true rfl⟩) hP hD hS hA [2] rfl (fun r7 u H locs hw hP hS => ?_)
      try dsimp only at hw
      obtain ⟨hz_r7, hw⟩ := hw
      refine lv_if_ne (tgt := 67) hx hb dX6_changePause_60 (by decide) (fun cd8 => ?_) (fun cd8 => ?_)
      · have hw := hw.1 cd8
        refine lv_iconst (v := 0) hx hb dX6_changePause_67 (by decide) ?_
        exact J68 yn (upd yt y1.toNatClampNeg y2) yb za zs x1 x2 (0 : Int32) _ _ _ hz_x2 hP hD hS hl hw
      · have hw := hw.2 cd8
        refine lv_iconst (v := 2) hx hb dX6_changePause_63 (by decide) ?_
        refine lv_goto (tgt := 68) hx hb dX6_changePause_64 (by decide) ?_
        exact J68 yn (upd yt y1.toNatClampNeg y2) yb za zs x1 x2 (2 : Int32) _ _ _ hz_x2 hP hD hS hl hw
    · have hw := hw.2 cd5
      refine lv_iconst (v := 1) hx hb dX6_changePause_42 (by decide) ?_
      refine lv_goto (tgt := 68) hx hb dX6_changePause_43 (by decide) ?_
      exact J68 yn (upd yt y1.toNatClampNeg y2) yb za zs x1 x2 (1 : Int32) _ _ _ hz_x2 hP hD hS hl hw
  unfold wn_X6_changePause at hw
  refine lv_iload_n hx hb dX6_changePause_0 rfl (lv_at hl 1 rfl) ?_
  refine lv_i2l hx hb dX6_changePause_1 rfl ?_
  refine lv_lconst (v := 0) hx hb dX6_changePause_2 (by decide) ?_
  refine lv_ldc2 (v := 8) hx hb hown (hts _ k_X6_changePause_c104) dX6_changePause_3 ?_
  refine kcR_i (kr_S [] ⟨hx, hb, hml, hown, hts⟩ (cn_X6_in l G a1.toInt64 (0 : Int64) (8 : Int64) hw H.size) (va_cwS 3 hts gX6_changePause_X6_in rfl rfl rfl (by decide +kernel) ⟨Nat.le_of_ble_eq_true rfl, Nat.le_of_ble_eq_true rfl⟩) hK hG hP hD hS hA [] rfl rfl rfl hl.1 rfl (Nat.le_of_ble_eq_true rfl) dX6_changePause_6 ⟨Nat.le_of_ble_eq_true rfl, Nat.le_of_ble_eq_true rfl⟩) hP hD hS hA [] rfl (fun r1 u H locs hw hP hS => ?_)
  try dsimp only at hw
  obtain ⟨hz_r1, hw⟩ := hw
  refine lv_istore_n (lv' := [(2, .int r1), (0, .ref qy), (1, .int a1)]) hx hb dX6_changePause_9 rfl hl (by decide) rfl (fun ls hl => ?_)
  refine lv_aload_n hx hb dX6_changePause_10 rfl (lv_at hl 1 rfl) ?_
  refine va_get (D := gD G) (ci := 6) (v := .ref qyn) (C := RX6) (T := TX6) (N := 16) hx hb hts k_X6_changePause_inX6 hown hK hP 0 rfl rfl 1 (by decide) (hts _ k_X6_changePause_f7) (fun _ h9 => h9) rfl dX6_changePause_11 ?_
  refine lv_aload_n hx hb dX6_changePause_14 rfl (lv_at hl 1 rfl) ?_
  refine va_get (D := gD G) (ci := 6) (v := .ref qyt) (C := RX6) (T := TX6) (N := 16) hx hb hts k_X6_changePause_inX6 hown hK hP 0 rfl rfl 2 (by decide) (hts _ k_X6_changePause_f13) (fun _ h9 => h9) rfl dX6_changePause_15 ?_
  refine kc_v (kr_S [] ⟨hx, hb, hml, hown, hts⟩ (cn_X6_copy l G qyn qyt yn yt hw H.size) (va_cwS 2 hts gX6_changePause_X6_copy rfl rfl rfl (by decide +kernel) ⟨Nat.le_of_ble_eq_true rfl, Nat.le_of_ble_eq_true rfl⟩) hK hG hP hD hS hA [1, 2] rfl rfl rfl hl.1 rfl (Nat.le_of_ble_eq_true rfl) dX6_changePause_18 ⟨Nat.le_of_ble_eq_true rfl, Nat.le_of_ble_eq_true rfl⟩) hP hD hS hA [1, 2] [0, 3, 4, 5, 6, 7, 8, 9] rfl rfl rfl (by decide) (fun u H locs hw hP hD hS => ?_)
  obtain ⟨vv_2, rfl⟩ : ∃ z, z = u := ⟨_, rfl⟩
  try dsimp only at hw
  have hP := hP.sub (ws' := (w0_X6_changePause G qy qyn qyt qyu qyf qyr qyb qyk qyi qyx yn vv_2 yu yf yr yb yk yi yx za zs zl zt zg zr zm)) [0, 8, 9, 1, 2, 3, 4, 5, 6, 7] rfl
  have hD := hD.sub (ws' := (w0_X6_changePause G qy qyn qyt qyu qyf qyr qyb qyk qyi qyx yn vv_2 yu yf yr yb yk yi yx za zs zl zt zg zr zm)) [0, 8, 9, 1, 2, 3, 4, 5, 6, 7] rfl rfl
  refine lv_aload_n hx hb dX6_changePause_21 rfl (lv_at hl 1 rfl) ?_
  refine va_get (D := gD G) (ci := 6) (v := .ref qyt) (C := RX6) (T := TX6) (N := 16) hx hb hts k_X6_changePause_inX6 hown hK hP 0 rfl rfl 2 (by decide) (hts _ k_X6_changePause_f13) (fun _ h9 => h9) rfl dX6_changePause_22 ?_
  refine lv_bipush (v := 43) hx hb dX6_changePause_25 (by decide) ?_
  refine lv_iload_n hx hb dX6_changePause_27 rfl (lv_at hl 0 rfl) ?_
  refine lv_if_eq (tgt := 35) hx hb dX6_changePause_28 (by decide) (fun cd3 => ?_) (fun cd3 => ?_)
  · have hw := hw.1 cd3
    refine lv_iconst (v := 0) hx hb dX6_changePause_35 (by decide) ?_
    exact J36 yn vv_2 yb za zs a1 r1 (43 : Int32) (0 : Int32) _ _ _ hz_r1 hP hD hS (lv_sub hl [1, 2, 0] rfl) hw
  · have hw := hw.2 cd3
    refine lv_iload_n hx hb dX6_changePause_31 rfl (lv_at hl 2 rfl) ?_
    refine lv_goto (tgt := 36) hx hb dX6_changePause_32 (by decide) ?_
    exact J36 yn vv_2 yb za zs a1 r1 (43 : Int32) a1 _ _ _ hz_r1 hP hD hS (lv_sub hl [1, 2, 0] rfl) hw

abbrev w0_X6_isIn (G : mG) (qy : Nat) (qyn : Nat) (qyt : Nat) (qyu : Nat) (qyf : Nat) (qyr : Nat) (qyb : Nat) (qyk : Nat) (qyi : Nat) (qyx : Nat) (yn : Nat → Int32) (yt : Nat → Int32) (yu : Nat → Int32) (yf : Nat → Int32) (yr : Nat → Int32) (yb : Nat → Int32) (yk : Nat → Int32) (yi : Nat → Int32) (yx : Nat → Int32) (za : Int32) (zs : Int32) (zl : Int32) (zt : Int32) (zg : Int32) (zr : Int32) (zm : Int32) : va_W := [(qy, .inr (6, [.int za, .ref qyn, .ref qyt, .ref qyu, .ref qyf, .ref qyr, .ref qyb, .int zs, .ref qyk, .ref qyi, .ref qyx, .int zl, .int zt, .int zg, .int zr, .int zm])), (qyn, .inl (gI G, (45, .inl yn))), (qyt, .inl (gI G, (45, .inl yt))), (qyu, .inl (gI G, (16384, .inl yu))), (qyf, .inl (gI G, (14, .inl yf))), (qyr, .inl (gI G, (14, .inl yr))), (qyb, .inl (gI G, (270, .inl yb))), (qyk, .inl (gI G, (90, .inl yk))), (qyi, .inl (gZ G, (2, .inl yi))), (qyx, .inl (gI G, (60, .inl yx)))]
set_option maxRecDepth 100000 in
theorem k_X6_isIn_inX6 : ∀ w ∈ u_ws RX6 TX6 16, w ∈ wsX6_isIn := by decide +kernel
set_option maxRecDepth 100000 in
theorem k_X6_isIn_f7 : Cond.fieldLink RX6 7 "RehearsalRoomModel" "now" "[I" ∈ wsX6_isIn := by decide +kernel
set_option maxHeartbeats 8000000 in
set_option maxRecDepth 100000 in
theorem cn_X6_isIn (l : Launch) (G : mG) (qy : Nat) (qyn : Nat) (qyt : Nat) (qyu : Nat) (qyf : Nat) (qyr : Nat) (qyb : Nat) (qyk : Nat) (qyi : Nat) (qyx : Nat) (yn : Nat → Int32) (yt : Nat → Int32) (yu : Nat → Int32) (yf : Nat → Int32) (yr : Nat → Int32) (yb : Nat → Int32) (yk : Nat → Int32) (yi : Nat → Int32) (yx : Nat → Int32) (za : Int32) (zs : Int32) (zl : Int32) (zt : Int32) (zg : Int32) (zr : Int32) (zm : Int32) (a1 : Int32) {Q : Int32 → Prop} (hw : wn_X6_isIn yn a1 Q) (sz : Nat) :
    Met l yX6_isIn wsX6_isIn ({ frames := 0, cells := 0, slots := 0, locals := 0 } : Room) (va_Pc [.ref qy, .int a1] (mPre G (w0_X6_isIn G qy qyn qyt qyu qyf qyr qyb qyk qyi qyx yn yt yu yf yr yb yk yi yx za zs zl zt zg zr zm) sz)) (va_Qi (fun (r : Int32) (u : Unit) => (r = 0 ∨ r = 1) ∧ Q r) (mBk G (va_A (w0_X6_isIn G qy qyn qyt qyu qyf qyr qyb qyk qyi qyx yn yt yu yf yr yb yk yi yx za zs zl zt zg zr zm) sz) (fun (u : Unit) => (w0_X6_isIn G qy qyn qyt qyu qyf qyr qyb qyk qyi qyx yn yt yu yf yr yb yk yi yx za zs zl zt zg zr zm))) (va_A (w0_X6_isIn G qy qyn qyt qyu qyf qyr qyb qyk qyi qyx yn yt yu yf yr yb yk yi yx za zs zl zt zg zr zm) sz)) 0 0 (va_A (w0_X6_isIn G qy qyn qyt qyu qyf qyr qyb qyk qyi qyx yn yt yu yf yr yb yk yi yx za zs zl zt zg zr zm) sz) := by
  refine ms_i (cc := cX6_isIn) (maxL := 2) (ret := some .boolean) (post := (fun (r : Int32) (u : Unit) => (r = 0 ∨ r = 1) ∧ Q r)) (w1 := (fun (u : Unit) => (w0_X6_isIn G qy qyn qyt qyu qyf qyr qyb qyk qyi qyx yn yt yu yf yr yb yk yi yx za zs zl zt zg zr zm))) (by decide) rfl (Nat.le_of_ble_eq_true rfl) ?_ sz
  intro p e s m below meth c A ls H locs hx hb hr hml hown hts hlocks hK hG hP hD hS hA hl
  have hown : s.vm.findClass RX6 = some m.cls := hown
  have hl : lv_has ls 2 [(0, .ref qy), (1, .int a1)] := hl
  unfold wn_X6_isIn at hw
  refine lv_aload_n hx hb dX6_isIn_0 rfl (lv_at hl 0 rfl) ?_
  refine va_get (D := gD G) (ci := 6) (v := .ref qyn) (C := RX6) (T := TX6) (N := 16) hx hb hts k_X6_isIn_inX6 hown hK hP 0 rfl rfl 1 (by decide) (hts _ k_X6_isIn_f7) (fun _ h9 => h9) rfl dX6_isIn_1 ?_
  refine lv_bipush (v := 42) hx hb dX6_isIn_4 (by decide) ?_
  obtain ⟨h1, hw⟩ := hw
  refine va_iald hx hb hK hP 1 0 rfl rfl h1 dX6_isIn_6 ?_
  refine lv_iload_n hx hb dX6_isIn_7 rfl (lv_at hl 1 rfl) ?_
  refine lv_ishr hx hb dX6_isIn_8 ?_
  refine lv_iconst (v := 1) hx hb dX6_isIn_9 (by decide) ?_
  refine lv_iand hx hb dX6_isIn_10 ?_
  refine lv_iconst (v := 1) hx hb dX6_isIn_11 (by decide) ?_
  refine lv_icmp_ne (tgt := 19) hx hb dX6_isIn_12 (by decide) (fun cd2 => ?_) (fun cd2 => ?_)
  · have hw := hw.1 cd2
    refine lv_iconst (v := 0) hx hb dX6_isIn_19 (by decide) ?_
    exact fin_z () hx hb hr (nz (Or.inl rfl)) hlocks hK hS hP hD ⟨(Or.inl rfl), hw⟩ dX6_isIn_20
  · have hw := hw.2 cd2
    refine lv_iconst (v := 1) hx hb dX6_isIn_15 (by decide) ?_
    refine lv_goto (tgt := 20) hx hb dX6_isIn_16 (by decide) ?_
    exact fin_z () hx hb hr (nz (Or.inr rfl)) hlocks hK hS hP hD ⟨(Or.inr rfl), hw⟩ dX6_isIn_20

abbrev w0_X6_book (G : mG) (qy : Nat) (qyn : Nat) (qyt : Nat) (qyu : Nat) (qyf : Nat) (qyr : Nat) (qyb : Nat) (qyk : Nat) (qyi : Nat) (qyx : Nat) (yn : Nat → Int32) (yt : Nat → Int32) (yu : Nat → Int32) (yf : Nat → Int32) (yr : Nat → Int32) (yb : Nat → Int32) (yk : Nat → Int32) (yi : Nat → Int32) (yx : Nat → Int32) (za : Int32) (zs : Int32) (zl : Int32) (zt : Int32) (zg : Int32) (zr : Int32) (zm : Int32) : va_W := [(qy, .inr (6, [.int za, .ref qyn, .ref qyt, .ref qyu, .ref qyf, .ref qyr, .ref qyb, .int zs, .ref qyk, .ref qyi, .ref qyx, .int zl, .int zt, .int zg, .int zr, .int zm])), (qyn, .inl (gI G, (45, .inl yn))), (qyt, .inl (gI G, (45, .inl yt))), (qyu, .inl (gI G, (16384, .inl yu))), (qyf, .inl (gI G, (14, .inl yf))), (qyr, .inl (gI G, (14, .inl yr))), (qyb, .inl (gI G, (270, .inl yb))), (qyk, .inl (gI G, (90, .inl yk))), (qyi, .inl (gZ G, (2, .inl yi))), (qyx, .inl (gI G, (60, .inl yx)))]
set_option maxRecDepth 100000 in
theorem k_X6_book_inX6 : ∀ w ∈ u_ws RX6 TX6 16, w ∈ wsX6_book := by decide +kernel
set_option maxRecDepth 100000 in
theorem k_X6_book_f7 : Cond.fieldLink RX6 7 "RehearsalRoomModel" "now" "[I" ∈ wsX6_book := by decide +kernel
set_option maxHeartbeats 8000000 in
set_option maxRecDepth 100000 in
theorem cn_X6_book (l : Launch) (G : mG) (qy : Nat) (qyn : Nat) (qyt : Nat) (qyu : Nat) (qyf : Nat) (qyr : Nat) (qyb : Nat) (qyk : Nat) (qyi : Nat) (qyx : Nat) (yn : Nat → Int32) (yt : Nat → Int32) (yu : Nat → Int32) (yf : Nat → Int32) (yr : Nat → Int32) (yb : Nat → Int32) (yk : Nat → Int32) (yi : Nat → Int32) (yx : Nat → Int32) (za : Int32) (zs : Int32) (zl : Int32) (zt : Int32) (zg : Int32) (zr : Int32) (zm : Int32) (a1 : Int32) {Q : Int32 → (Nat → Int32) → (Nat → Int32) → Int32 → Int32 → Prop} (hw : wn_X6_book yn yb za zs a1 Q) (sz : Nat) :
    Met l yX6_book wsX6_book ({ frames := 2, cells := 0, slots := 0, locals := 47 } : Room) (va_Pc [.ref qy, .int a1] (mPre G (w0_X6_book G qy qyn qyt qyu qyf qyr qyb qyk qyi qyx yn yt yu yf yr yb yk yi yx za zs zl zt zg zr zm) sz)) (va_Qi (fun (r : Int32) (u : (Nat → Int32) × (Nat → Int32) × Int32 × Int32) => Q r u.1 u.2.1 u.2.2.1 u.2.2.2) (mBk G (va_A (w0_X6_book G qy qyn qyt qyu qyf qyr qyb qyk qyi qyx yn yt yu yf yr yb yk yi yx za zs zl zt zg zr zm) sz) (fun (u : (Nat → Int32) × (Nat → Int32) × Int32 × Int32) => (w0_X6_book G qy qyn qyt qyu qyf qyr qyb qyk qyi qyx u.1 yt yu yf yr u.2.1 yk yi yx u.2.2.1 u.2.2.2 zl zt zg zr zm))) (va_A (w0_X6_book G qy qyn qyt qyu qyf qyr qyb qyk qyi qyx yn yt yu yf yr yb yk yi yx za zs zl zt zg zr zm) sz)) 0 0 (va_A (w0_X6_book G qy qyn qyt qyu qyf qyr qyb qyk qyi qyx yn yt yu yf yr yb yk yi yx za zs zl zt zg zr zm) sz) := by
  refine ms_i (cc := cX6_book) (maxL := 4) (ret := some .int) (post := (fun (r : Int32) (u : (Nat → Int32) × (Nat → Int32) × Int32 × Int32) => Q r u.1 u.2.1 u.2.2.1 u.2.2.2)) (w1 := (fun (u : (Nat → Int32) × (Nat → Int32) × Int32 × Int32) => (w0_X6_book G qy qyn qyt qyu qyf qyr qyb qyk qyi qyx u.1 yt yu yf yr u.2.1 yk yi yx u.2.2.1 u.2.2.2 zl zt zg zr zm))) (by decide) rfl (Nat.le_of_ble_eq_true rfl) ?_ sz
  intro p e s m below meth c A ls H locs hx hb hr hml hown hts hlocks hK hG hP hD hS hA hl
  have hown : s.vm.findClass RX6 = some m.cls := hown
  have hl : lv_has ls 4 [(0, .ref qy), (1, .int a1)] := hl
  have J61 : ∀ (yn : Nat → Int32) (yb : Nat → Int32) (za : Int32) (zs : Int32) (x1 : Int32) (x2 : Int32) (x3 : Int32) (y1 : Int32) (H : Heap) (locs : List Loc) (ls : Array Slot), (x2 = 0 ∨ x2 = 1) → (x3 = 0 ∨ x3 = 1) → va_P (gD G) vwCl (w0_X6_book G qy qyn qyt qyu qyf qyr qyb qyk qyi qyx yn yt yu yf yr yb yk yi yx za zs zl zt zg zr zm) H → va_D A (w0_X6_book G qy qyn qyt qyu qyf qyr qyb qyk qyi qyx yn yt yu yf yr yb yk yi yx za zs zl zt zg zr zm) → va_S A s.heap H locs → lv_has ls 4 [(0, .ref qy), (1, .int x1), (2, .int x2), (3, .int x3)] → wj_n_X6_book_61 Q yn yb za zs x1 x2 x3 y1 → W p l e ({ frames := 2, cells := 0, slots := 0, locals := 47 } : Room) s m ([.ref qy, .int a1] : List Value).toArray below meth c H locs 0 0 (MQ below (va_Qi (fun (r : Int32) (u : (Nat → Int32) × (Nat → Int32) × Int32 × Int32) => Q r u.1 u.2.1 u.2.2.1 u.2.2.2) (mBk G A (fun (u : (Nat → Int32) × (Nat → Int32) × Int32 × Int32) => (w0_X6_book G qy qyn qyt qyu qyf qyr qyb qyk qyi qyx u.1 yt yu yf yr u.2.1 yk yi yx u.2.2.1 u.2.2.2 zl zt zg zr zm))) A) ([.ref qy, .int a1] : List Value).toArray s 0 0 A) (F0 m 61 ls [.int y1, .ref qy]) := by
    intro yn yb za zs x1 x2 x3 y1 H locs ls hz_x2 hz_x3 hP hD hS hl hw
    unfold wj_n_X6_book_61 at hw
    refine kc_i (kr_V [] ⟨hx, hb, hml, hown, hts⟩ (cn_X6_refused l G qy qyn qyt qyu qyf qyr qyb qyk qyi qyx yn yt yu yf yr yb yk yi yx za zs zl zt zg zr zm y1 hw H.size) (cwV 1 hts gX6_book_X6_refused rfl rfl rfl (by decide +kernel) ⟨Nat.le_of_ble_eq_true rfl, Nat.le_of_ble_eq_true rfl⟩) hK hG hP hD hS hA [0, 1, 2, 3, 4, 5, 6, 7, 8, 9] rfl rfl 6 0 rfl rfl rfl hl.1 rfl (Nat.le_of_ble_eq_true rfl) dX6_book_61 ⟨Nat.le_of_ble_eq_true rfl, Nat.le_of_ble_eq_true rfl⟩) hP hD hS hA [0, 1, 2, 3, 4, 5, 6, 7, 8, 9] [] rfl rfl rfl (by decide) (fun r5 u H locs hw hP hD hS => ?_)
    obtain ⟨za_6, rfl⟩ : ∃ z, z = u := ⟨_, rfl⟩
    try dsimp only at hw
    have hP := hP.sub (ws' := (w0_X6_book G qy qyn qyt qyu qyf qyr qyb qyk qyi qyx yn yt yu yf yr yb yk yi yx za_6 zs zl zt zg zr zm)) [0, 1, 2, 3, 4, 5, 6, 7, 8, 9] rfl
    have hD := hD.sub (ws' := (w0_X6_book G qy qyn qyt qyu qyf qyr qyb qyk qyi qyx yn yt yu yf yr yb yk yi yx za_6 zs zl zt zg zr zm)) [0, 1, 2, 3, 4, 5, 6, 7, 8, 9] rfl rfl
    obtain ⟨hz_r5, hw⟩ := hw
    refine lv_if_eq (tgt := 69) hx hb dX6_book_64 (by decide) (fun cd7 => ?_) (fun cd7 => ?_)
    · have hw := hw.1 cd7
      refine lv_aload_n hx hb dX6_book_69 rfl (lv_at hl 0 rfl) ?_
      refine kc_v (kr_V [] ⟨hx, hb, hml, hown, hts⟩ (cn_X6_save l G qy qyn qyt qyu qyf qyr qyb qyk qyi qyx yn yt yu yf yr yb yk yi yx za_6 zs zl zt zg zr zm hw H.size) (cwV 0 hts gX6_book_X6_save rfl rfl rfl (by decide +kernel) ⟨Nat.le_of_ble_eq_true rfl, Nat.le_of_ble_eq_true rfl⟩) hK hG hP hD hS hA [0, 1, 2, 3, 4, 5, 6, 7, 8, 9] rfl rfl 6 0 rfl rfl rfl hl.1 rfl (Nat.le_of_ble_eq_true rfl) dX6_book_70 ⟨Nat.le_of_ble_eq_true rfl, Nat.le_of_ble_eq_true rfl⟩) hP hD hS hA [0, 1, 2, 3, 4, 5, 6, 7, 8, 9] [] rfl rfl rfl (by decide) (fun u H locs hw hP hD hS => ?_)
      obtain ⟨yb_8, zs_9⟩ := u
      try dsimp only at hw
      have hP := hP.sub (ws' := (w0_X6_book G qy qyn qyt qyu qyf qyr qyb qyk qyi qyx yn yt yu yf yr yb_8 yk yi yx za_6 zs_9 zl zt zg zr zm)) [0, 1, 2, 3, 4, 5, 6, 7, 8, 9] rfl
      have hD := hD.sub (ws' := (w0_X6_book G qy qyn qyt qyu qyf qyr qyb qyk qyi qyx yn yt yu yf yr yb_8 yk yi yx za_6 zs_9 zl zt zg zr zm)) [0, 1, 2, 3, 4, 5, 6, 7, 8, 9] rfl rfl
      refine lv_aload_n hx hb dX6_book_73 rfl (lv_at hl 0 rfl) ?_
      refine va_get (D := gD G) (ci := 6) (v := .ref qyn) (C := RX6) (T := TX6) (N := 16) hx hb hts k_X6_book_inX6 hown hK hP 0 rfl rfl 1 (by decide) (hts _ k_X6_book_f7) (fun _ h9 => h9) rfl dX6_book_74 ?_
      refine lv_bipush (v := 42) hx hb dX6_book_77 (by decide) ?_
      refine lv_dup2_11 hx hb dX6_book_79 rfl rfl ?_
      obtain ⟨h10, hw⟩ := hw
      refine va_iald hx hb hK hP 1 0 rfl rfl h10 dX6_book_80 ?_
      refine lv_iconst (v := 1) hx hb dX6_book_81 (by decide) ?_
      refine lv_iload_n hx hb dX6_book_82 rfl (lv_at hl 1 rfl) ?_
      refine lv_ishl hx hb dX6_book_83 ?_
      refine lv_ior hx hb dX6_book_84 ?_
      obtain ⟨h11, hw⟩ := hw
      refine va_iast hx hb hK hP hD hS 1 0 rfl rfl h11 dX6_book_85 (fun H locs hP hD hS => ?_)
      have hP : va_P (gD G) vwCl (w0_X6_book G qy qyn qyt qyu qyf qyr qyb qyk qyi qyx (upd yn (42 : Int32).toNatClampNeg ((yn (42 : Int32).toNatClampNeg) ||| ((1 : Int32) <<< (x1 &&& 31)))) yt yu yf yr yb_8 yk yi yx za_6 zs_9 zl zt zg zr zm) H := hP
      have hD : va_D A (w0_X6_book G qy qyn qyt qyu qyf qyr qyb qyk qyi qyx (upd yn (42 : Int32).toNatClampNeg ((yn (42 : Int32).toNatClampNeg) ||| ((1 : Int32) <<< (x1 &&& 31)))) yt yu yf yr yb_8 yk yi yx za_6 zs_9 zl zt zg zr zm) := hD
      refine lv_aload_n hx hb dX6_book_86 rfl (lv_at hl 0 rfl) ?_
      refine kcR_i (kr_V [] ⟨hx, hb, hml, hown, hts⟩ (cn_X6_fameOfBooked l G qy qyn qyt qyu qyf qyr qyb qyk qyi qyx (upd yn (42 : Int32).toNatClampNeg ((yn (42 : Int32).toNatClampNeg) ||| ((1 : Int32) <<< (x1 &&& 31)))) yt yu yf yr yb_8 yk yi yx za_6 zs_9 zl zt zg zr zm hw H.size) (cwV 0 hts gX6_book_X6_fameOfBooked rfl rfl rfl (by decide +kernel) ⟨Nat.le_of_ble_eq_true rfl, Nat.le_of_ble_eq_true rfl⟩) hK hG hP hD hS hA [0, 1, 2, 3, 4, 5, 6, 7, 8, 9] rfl rfl 6 0 rfl rfl rfl hl.1 rfl (Nat.le_of_ble_eq_true rfl) dX6_book_87 ⟨Nat.le_of_ble_eq_true rfl, Nat.le_of_ble_eq_true rfl⟩) hP hD hS hA [0, 1, 2, 3, 4, 5, 6, 7, 8, 9] rfl (fun r12 u H locs hw hP hS => ?_)
      try dsimp only at hw
      exact fin_i ((upd yn (42 : Int32).toNatClampNeg ((yn (42 : Int32).toNatClampNeg) ||| ((1 : Int32) <<< (x1 &&& 31)))), yb_8, za_6, zs_9) hx hb hr hlocks hK hS hP hD hw dX6_book_90
    · have hw := hw.2 cd7
      refine lv_iconst (v := 0) hx hb dX6_book_67 (by decide) ?_
      exact fin_i (yn, yb, za_6, zs) hx hb hr hlocks hK hS hP hD hw dX6_book_68
  have J42 : ∀ (yn : Nat → Int32) (yb : Nat → Int32) (za : Int32) (zs : Int32) (x1 : Int32) (x2 : Int32) (y0 : Int32) (H : Heap) (locs : List Loc) (ls : Array Slot), (x2 = 0 ∨ x2 = 1) → (y0 = 0 ∨ y0 = 1) → va_P (gD G) vwCl (w0_X6_book G qy qyn qyt qyu qyf qyr qyb qyk qyi qyx yn yt yu yf yr yb yk yi yx za zs zl zt zg zr zm) H → va_D A (w0_X6_book G qy qyn qyt qyu qyf qyr qyb qyk qyi qyx yn yt yu yf yr yb yk yi yx za zs zl zt zg zr zm) → va_S A s.heap H locs → lv_has ls 4 [(0, .ref qy), (1, .int x1), (2, .int x2)] → wj_n_X6_book_42 Q yn yb za zs x1 x2 y0 → W p l e ({ frames := 2, cells := 0, slots := 0, locals := 47 } : Room) s m ([.ref qy, .int a1] : List Value).toArray below meth c H locs 0 0 (MQ below (va_Qi (fun (r : Int32) (u : (Nat → Int32) × (Nat → Int32) × Int32 × Int32) => Q r u.1 u.2.1 u.2.2.1 u.2.2.2) (mBk G A (fun (u : (Nat → Int32) × (Nat → Int32) × Int32 × Int32) => (w0_X6_book G qy qyn qyt qyu qyf qyr qyb qyk qyi qyx u.1 yt yu yf yr u.2.1 yk yi yx u.2.2.1 u.2.2.2 zl zt zg zr zm))) A) ([.ref qy, .int a1] : List Value).toArray s 0 0 A) (F0 m 42 ls [.int y0]) := by
    intro yn yb za zs x1 x2 y0 H locs ls hz_x2 hz_y0 hP hD hS hl hw
    unfold wj_n_X6_book_42 at hw
    refine lv_istore_n (lv' := [(3, .int y0), (0, .ref qy), (1, .int x1), (2, .int x2)]) hx hb dX6_book_42 rfl hl (by decide) rfl (fun ls hl => ?_)
    refine lv_aload_n hx hb dX6_book_43 rfl (lv_at hl 1 rfl) ?_
    refine lv_iload_n hx hb dX6_book_44 rfl (lv_at hl 3 rfl) ?_
    refine lv_if_ne (tgt := 52) hx hb dX6_book_45 (by decide) (fun cd3 => ?_) (fun cd3 => ?_)
    · have hw := hw.1 cd3
      refine lv_iload_n hx hb dX6_book_52 rfl (lv_at hl 0 rfl) ?_
      refine lv_if_ne (tgt := 60) hx hb dX6_book_53 (by decide) (fun cd4 => ?_) (fun cd4 => ?_)
      · have hw := hw.1 cd4
        refine lv_iconst (v := 0) hx hb dX6_book_60 (by decide) ?_
        exact J61 yn yb za zs x1 x2 y0 (0 : Int32) _ _ _ hz_x2 hz_y0 hP hD hS (lv_sub hl [1, 2, 3, 0] rfl) hw
      · have hw := hw.2 cd4
        refine lv_iconst (v := 2) hx hb dX6_book_56 (by decide) ?_
        refine lv_goto (tgt := 61) hx hb dX6_book_57 (by decide) ?_
        exact J61 yn yb za zs x1 x2 y0 (2 : Int32) _ _ _ hz_x2 hz_y0 hP hD hS (lv_sub hl [1, 2, 3, 0] rfl) hw
    · have hw := hw.2 cd3
      refine lv_iconst (v := 1) hx hb dX6_book_48 (by decide) ?_
      refine lv_goto (tgt := 61) hx hb dX6_book_49 (by decide) ?_
      exact J61 yn yb za zs x1 x2 y0 (1 : Int32) _ _ _ hz_x2 hz_y0 hP hD hS (lv_sub hl [1, 2, 3, 0] rfl) hw
  have J41 : ∀ (yn : Nat → Int32) (yb : Nat → Int32) (za : Int32) (zs : Int32) (x1 : Int32) (x2 : Int32) (H : Heap) (locs : List Loc) (ls : Array Slot), (x2 = 0 ∨ x2 = 1) → va_P (gD G) vwCl (w0_X6_book G qy qyn qyt qyu qyf qyr qyb qyk qyi qyx yn yt yu yf yr yb yk yi yx za zs zl zt zg zr zm) H → va_D A (w0_X6_book G qy qyn qyt qyu qyf qyr qyb qyk qyi qyx yn yt yu yf yr yb yk yi yx za zs zl zt zg zr zm) → va_S A s.heap H locs → lv_has ls 4 [(0, .ref qy), (1, .int x1), (2, .int x2)] → wj_n_X6_book_41 Q yn yb za zs x1 x2 → W p l e ({ frames := 2, cells := 0, slots := 0, locals := 47 } : Room) s m ([.ref qy, .int a1] : List Value).toArray below meth c H locs 0 0 (MQ below (va_Qi (fun (r : Int32) (u : (Nat → Int32) × (Nat → Int32) × Int32 × Int32) => Q r u.1 u.2.1 u.2.2.1 u.2.2.2) (mBk G A (fun (u : (Nat → Int32) × (Nat → Int32) × Int32 × Int32) => (w0_X6_book G qy qyn qyt qyu qyf qyr qyb qyk qyi qyx u.1 yt yu yf yr u.2.1 yk yi yx u.2.2.1 u.2.2.2 zl zt zg zr zm))) A) ([.ref qy, .int a1] : List Value).toArray s 0 0 A) (F0 m 41 ls []) := by
    intro yn yb za zs x1 x2 H locs ls hz_x2 hP hD hS hl hw
    unfold wj_n_X6_book_41 at hw
    refine lv_iconst (v := 0) hx hb dX6_book_41 (by decide) ?_
    exact J42 yn yb za zs x1 x2 (0 : Int32) _ _ _ hz_x2 (Or.inl rfl) hP hD hS hl hw
  unfold wn_X6_book at hw
  refine lv_aload_n hx hb dX6_book_0 rfl (lv_at hl 0 rfl) ?_
  refine lv_iload_n hx hb dX6_book_1 rfl (lv_at hl 1 rfl) ?_
  refine kcR_i (kr_V [] ⟨hx, hb, hml, hown, hts⟩ (cn_X6_isThere l G qy qyn qyt qyu qyf qyr qyb qyk qyi qyx yn yt yu yf yr yb yk yi yx za zs zl zt zg zr zm a1 hw H.size) (cwV 1 hts gX6_book_X6_isThere rfl rfl rfl (by decide +kernel) ⟨Nat.le_of_ble_eq_true rfl, Nat.le_of_ble_eq_true rfl⟩) hK hG hP hD hS hA [0, 1, 2, 3, 4, 5, 6, 7, 8, 9] rfl rfl 6 0 rfl rfl rfl hl.1 rfl (Nat.le_of_ble_eq_true rfl) dX6_book_2 ⟨Nat.le_of_ble_eq_true rfl, Nat.le_of_ble_eq_true rfl⟩) hP hD hS hA [0, 1, 2, 3, 4, 5, 6, 7, 8, 9] rfl (fun r1 u H locs hw hP hS => ?_)
  try dsimp only at hw
  obtain ⟨hz_r1, hw⟩ := hw
  refine lv_istore_n (lv' := [(2, .int r1), (0, .ref qy), (1, .int a1)]) hx hb dX6_book_5 rfl hl (by decide) rfl (fun ls hl => ?_)
  refine lv_iload_n hx hb dX6_book_6 rfl (lv_at hl 0 rfl) ?_
  refine lv_if_eq (tgt := 41) hx hb dX6_book_7 (by decide) (fun cd2 => ?_) (fun cd2 => ?_)
  · have hw := hw.1 cd2
    exact J41 yn yb za zs a1 r1 _ _ _ hz_r1 hP hD hS (lv_sub hl [1, 2, 0] rfl) hw
  · have hw := hw.2 cd2
    refine lv_aload_n hx hb dX6_book_10 rfl (lv_at hl 1 rfl) ?_
    refine lv_iload_n hx hb dX6_book_11 rfl (lv_at hl 2 rfl) ?_
    refine kcR_i (kr_V [] ⟨hx, hb, hml, hown, hts⟩ (cn_X6_isIn l G qy qyn qyt qyu qyf qyr qyb qyk qyi qyx yn yt yu yf yr yb yk yi yx za zs zl zt zg zr zm a1 hw H.size) (cwV 1 hts gX6_book_X6_isIn rfl rfl rfl (by decide +kernel) ⟨Nat.le_of_ble_eq_true rfl, Nat.le_of_ble_eq_true rfl⟩) hK hG hP hD hS hA [0, 1, 2, 3, 4, 5, 6, 7, 8, 9] rfl rfl 6 0 rfl rfl rfl hl.1 rfl (Nat.le_of_ble_eq_true rfl) dX6_book_12 ⟨Nat.le_of_ble_eq_true rfl, Nat.le_of_ble_eq_true rfl⟩) hP hD hS hA [0, 1, 2, 3, 4, 5, 6, 7, 8, 9] rfl (fun r13 u H locs hw hP hS => ?_)
    try dsimp only at hw
    obtain ⟨hz_r13, hw⟩ := hw
    refine lv_if_ne (tgt := 41) hx hb dX6_book_15 (by decide) (fun cd14 => ?_) (fun cd14 => ?_)
    · have hw := hw.1 cd14
      exact J41 yn yb za zs a1 r1 _ _ _ hz_r1 hP hD hS (lv_sub hl [1, 2, 0] rfl) hw
    · have hw := hw.2 cd14
      refine lv_aload_n hx hb dX6_book_18 rfl (lv_at hl 1 rfl) ?_
      refine va_get (D := gD G) (ci := 6) (v := .ref qyn) (C := RX6) (T := TX6) (N := 16) hx hb hts k_X6_book_inX6 hown hK hP 0 rfl rfl 1 (by decide) (hts _ k_X6_book_f7) (fun _ h9 => h9) rfl dX6_book_19 ?_
      refine lv_iload_n hx hb dX6_book_22 rfl (lv_at hl 2 rfl) ?_
      refine kcR_i (kr_S [] ⟨hx, hb, hml, hown, hts⟩ (cn_X6_foesOf l G qyn yn a1 hw H.size) (va_cwS 2 hts gX6_book_X6_foesOf rfl rfl rfl (by decide +kernel) ⟨Nat.le_of_ble_eq_true rfl, Nat.le_of_ble_eq_true rfl⟩) hK hG hP hD hS hA [1] rfl rfl rfl hl.1 rfl (Nat.le_of_ble_eq_true rfl) dX6_book_23 ⟨Nat.le_of_ble_eq_true rfl, Nat.le_of_ble_eq_true rfl⟩) hP hD hS hA [1] rfl (fun r15 u H locs hw hP hS => ?_)
      try dsimp only at hw
      refine lv_aload_n hx hb dX6_book_26 rfl (lv_at hl 1 rfl) ?_
      refine va_get (D := gD G) (ci := 6) (v := .ref qyn) (C := RX6) (T := TX6) (N := 16) hx hb hts k_X6_book_inX6 hown hK hP 0 rfl rfl 1 (by decide) (hts _ k_X6_book_f7) (fun _ h9 => h9) rfl dX6_book_27 ?_
      refine lv_bipush (v := 42) hx hb dX6_book_30 (by decide) ?_
      obtain ⟨h16, hw⟩ := hw
      refine va_iald hx hb hK hP 1 0 rfl rfl h16 dX6_book_32 ?_
      refine lv_iand hx hb dX6_book_33 ?_
      refine lv_if_ne (tgt := 41) hx hb dX6_book_34 (by decide) (fun cd17 => ?_) (fun cd17 => ?_)
      · have hw := hw.1 cd17
        exact J41 yn yb za zs a1 r1 _ _ _ hz_r1 hP hD hS (lv_sub hl [1, 2, 0] rfl) hw
      · have hw := hw.2 cd17
        refine lv_iconst (v := 1) hx hb dX6_book_37 (by decide) ?_
        refine lv_goto (tgt := 42) hx hb dX6_book_38 (by decide) ?_
        exact J42 yn yb za zs a1 r1 (1 : Int32) _ _ _ hz_r1 (Or.inr rfl) hP hD hS (lv_sub hl [1, 2, 0] rfl) hw

abbrev w0_X6_cancel (G : mG) (qy : Nat) (qyn : Nat) (qyt : Nat) (qyu : Nat) (qyf : Nat) (qyr : Nat) (qyb : Nat) (qyk : Nat) (qyi : Nat) (qyx : Nat) (yn : Nat → Int32) (yt : Nat → Int32) (yu : Nat → Int32) (yf : Nat → Int32) (yr : Nat → Int32) (yb : Nat → Int32) (yk : Nat → Int32) (yi : Nat → Int32) (yx : Nat → Int32) (za : Int32) (zs : Int32) (zl : Int32) (zt : Int32) (zg : Int32) (zr : Int32) (zm : Int32) : va_W := [(qy, .inr (6, [.int za, .ref qyn, .ref qyt, .ref qyu, .ref qyf, .ref qyr, .ref qyb, .int zs, .ref qyk, .ref qyi, .ref qyx, .int zl, .int zt, .int zg, .int zr, .int zm])), (qyn, .inl (gI G, (45, .inl yn))), (qyt, .inl (gI G, (45, .inl yt))), (qyu, .inl (gI G, (16384, .inl yu))), (qyf, .inl (gI G, (14, .inl yf))), (qyr, .inl (gI G, (14, .inl yr))), (qyb, .inl (gI G, (270, .inl yb))), (qyk, .inl (gI G, (90, .inl yk))), (qyi, .inl (gZ G, (2, .inl yi))), (qyx, .inl (gI G, (60, .inl yx)))]
set_option maxRecDepth 100000 in
theorem k_X6_cancel_inX6 : ∀ w ∈ u_ws RX6 TX6 16, w ∈ wsX6_cancel := by decide +kernel
set_option maxRecDepth 100000 in
theorem k_X6_cancel_f7 : Cond.fieldLink RX6 7 "RehearsalRoomModel" "now" "[I" ∈ wsX6_cancel := by decide +kernel
set_option maxHeartbeats 8000000 in
set_option maxRecDepth 100000 in
theorem cn_X6_cancel (l : Launch) (G : mG) (qy : Nat) (qyn : Nat) (qyt : Nat) (qyu : Nat) (qyf : Nat) (qyr : Nat) (qyb : Nat) (qyk : Nat) (qyi : Nat) (qyx : Nat) (yn : Nat → Int32) (yt : Nat → Int32) (yu : Nat → Int32) (yf : Nat → Int32) (yr : Nat → Int32) (yb : Nat → Int32) (yk : Nat → Int32) (yi : Nat → Int32) (yx : Nat → Int32) (za : Int32) (zs : Int32) (zl : Int32) (zt : Int32) (zg : Int32) (zr : Int32) (zm : Int32) (a1 : Int32) {Q : Int32 → (Nat → Int32) → (Nat → Int32) → Int32 → Int32 → Prop} (hw : wn_X6_cancel yn yb za zs a1 Q) (sz : Nat) :
    Met l yX6_cancel wsX6_cancel ({ frames := 2, cells := 0, slots := 0, locals := 46 } : Room) (va_Pc [.ref qy, .int a1] (mPre G (w0_X6_cancel G qy qyn qyt qyu qyf qyr qyb qyk qyi qyx yn yt yu yf yr yb yk yi yx za zs zl zt zg zr zm) sz)) (va_Qi (fun (r : Int32) (u : (Nat → Int32) × (Nat → Int32) × Int32 × Int32) => Q r u.1 u.2.1 u.2.2.1 u.2.2.2) (mBk G (va_A (w0_X6_cancel G qy qyn qyt qyu qyf qyr qyb qyk qyi qyx yn yt yu yf yr yb yk yi yx za zs zl zt zg zr zm) sz) (fun (u : (Nat → Int32) × (Nat → Int32) × Int32 × Int32) => (w0_X6_cancel G qy qyn qyt qyu qyf qyr qyb qyk qyi qyx u.1 yt yu yf yr u.2.1 yk yi yx u.2.2.1 u.2.2.2 zl zt zg zr zm))) (va_A (w0_X6_cancel G qy qyn qyt qyu qyf qyr qyb qyk qyi qyx yn yt yu yf yr yb yk yi yx za zs zl zt zg zr zm) sz)) 0 0 (va_A (w0_X6_cancel G qy qyn qyt qyu qyf qyr qyb qyk qyi qyx yn yt yu yf yr yb yk yi yx za zs zl zt zg zr zm) sz) := by
  refine ms_i (cc := cX6_cancel) (maxL := 3) (ret := some .int) (post := (fun (r : Int32) (u : (Nat → Int32) × (Nat → Int32) × Int32 × Int32) => Q r u.1 u.2.1 u.2.2.1 u.2.2.2)) (w1 := (fun (u : (Nat → Int32) × (Nat → Int32) × Int32 × Int32) => (w0_X6_cancel G qy qyn qyt qyu qyf qyr qyb qyk qyi qyx u.1 yt yu yf yr u.2.1 yk yi yx u.2.2.1 u.2.2.2 zl zt zg zr zm))) (by decide) rfl (Nat.le_of_ble_eq_true rfl) ?_ sz
  intro p e s m below meth c A ls H locs hx hb hr hml hown hts hlocks hK hG hP hD hS hA hl
  have hown : s.vm.findClass RX6 = some m.cls := hown
  have hl : lv_has ls 3 [(0, .ref qy), (1, .int a1)] := hl
  have J28 : ∀ (yn : Nat → Int32) (yb : Nat → Int32) (za : Int32) (zs : Int32) (x1 : Int32) (x2 : Int32) (y1 : Int32) (H : Heap) (locs : List Loc) (ls : Array Slot), (x2 = 0 ∨ x2 = 1) → va_P (gD G) vwCl (w0_X6_cancel G qy qyn qyt qyu qyf qyr qyb qyk qyi qyx yn yt yu yf yr yb yk yi yx za zs zl zt zg zr zm) H → va_D A (w0_X6_cancel G qy qyn qyt qyu qyf qyr qyb qyk qyi qyx yn yt yu yf yr yb yk yi yx za zs zl zt zg zr zm) → va_S A s.heap H locs → lv_has ls 3 [(0, .ref qy), (1, .int x1), (2, .int x2)] → wj_n_X6_cancel_28 Q yn yb za zs x1 x2 y1 → W p l e ({ frames := 2, cells := 0, slots := 0, locals := 46 } : Room) s m ([.ref qy, .int a1] : List Value).toArray below meth c H locs 0 0 (MQ below (va_Qi (fun (r : Int32) (u : (Nat → Int32) × (Nat → Int32) × Int32 × Int32) => Q r u.1 u.2.1 u.2.2.1 u.2.2.2) (mBk G A (fun (u : (Nat → Int32) × (Nat → Int32) × Int32 × Int32) => (w0_X6_cancel G qy qyn qyt qyu qyf qyr qyb qyk qyi qyx u.1 yt yu yf yr u.2.1 yk yi yx u.2.2.1 u.2.2.2 zl zt zg zr zm))) A) ([.ref qy, .int a1] : List Value).toArray s 0 0 A) (F0 m 28 ls [.int y1, .ref qy]) := by
    intro yn yb za zs x1 x2 y1 H locs ls hz_x2 hP hD hS hl hw
    unfold wj_n_X6_cancel_28 at hw
    refine kc_i (kr_V [] ⟨hx, hb, hml, hown, hts⟩ (cn_X6_refused l G qy qyn qyt qyu qyf qyr qyb qyk qyi qyx yn yt yu yf yr yb yk yi yx za zs zl zt zg zr zm y1 hw H.size) (cwV 1 hts gX6_cancel_X6_refused rfl rfl rfl (by decide +kernel) ⟨Nat.le_of_ble_eq_true rfl, Nat.le_of_ble_eq_true rfl⟩) hK hG hP hD hS hA [0, 1, 2, 3, 4, 5, 6, 7, 8, 9] rfl rfl 6 0 rfl rfl rfl hl.1 rfl (Nat.le_of_ble_eq_true rfl) dX6_cancel_28 ⟨Nat.le_of_ble_eq_true rfl, Nat.le_of_ble_eq_true rfl⟩) hP hD hS hA [0, 1, 2, 3, 4, 5, 6, 7, 8, 9] [] rfl rfl rfl (by decide) (fun r5 u H locs hw hP hD hS => ?_)
    obtain ⟨za_6, rfl⟩ : ∃ z, z = u := ⟨_, rfl⟩
    try dsimp only at hw
    have hP := hP.sub (ws' := (w0_X6_cancel G qy qyn qyt qyu qyf qyr qyb qyk qyi qyx yn yt yu yf yr yb yk yi yx za_6 zs zl zt zg zr zm)) [0, 1, 2, 3, 4, 5, 6, 7, 8, 9] rfl
    have hD := hD.sub (ws' := (w0_X6_cancel G qy qyn qyt qyu qyf qyr qyb qyk qyi qyx yn yt yu yf yr yb yk yi yx za_6 zs zl zt zg zr zm)) [0, 1, 2, 3, 4, 5, 6, 7, 8, 9] rfl rfl
    obtain ⟨hz_r5, hw⟩ := hw
    refine lv_if_eq (tgt := 36) hx hb dX6_cancel_31 (by decide) (fun cd7 => ?_) (fun cd7 => ?_)
    · have hw := hw.1 cd7
      refine lv_aload_n hx hb dX6_cancel_36 rfl (lv_at hl 0 rfl) ?_
      refine kc_v (kr_V [] ⟨hx, hb, hml, hown, hts⟩ (cn_X6_save l G qy qyn qyt qyu qyf qyr qyb qyk qyi qyx yn yt yu yf yr yb yk yi yx za_6 zs zl zt zg zr zm hw H.size) (cwV 0 hts gX6_cancel_X6_save rfl rfl rfl (by decide +kernel) ⟨Nat.le_of_ble_eq_true rfl, Nat.le_of_ble_eq_true rfl⟩) hK hG hP hD hS hA [0, 1, 2, 3, 4, 5, 6, 7, 8, 9] rfl rfl 6 0 rfl rfl rfl hl.1 rfl (Nat.le_of_ble_eq_true rfl) dX6_cancel_37 ⟨Nat.le_of_ble_eq_true rfl, Nat.le_of_ble_eq_true rfl⟩) hP hD hS hA [0, 1, 2, 3, 4, 5, 6, 7, 8, 9] [] rfl rfl rfl (by decide) (fun u H locs hw hP hD hS => ?_)
      obtain ⟨yb_8, zs_9⟩ := u
      try dsimp only at hw
      have hP := hP.sub (ws' := (w0_X6_cancel G qy qyn qyt qyu qyf qyr qyb qyk qyi qyx yn yt yu yf yr yb_8 yk yi yx za_6 zs_9 zl zt zg zr zm)) [0, 1, 2, 3, 4, 5, 6, 7, 8, 9] rfl
      have hD := hD.sub (ws' := (w0_X6_cancel G qy qyn qyt qyu qyf qyr qyb qyk qyi qyx yn yt yu yf yr yb_8 yk yi yx za_6 zs_9 zl zt zg zr zm)) [0, 1, 2, 3, 4, 5, 6, 7, 8, 9] rfl rfl
      refine lv_aload_n hx hb dX6_cancel_40 rfl (lv_at hl 0 rfl) ?_
      refine va_get (D := gD G) (ci := 6) (v := .ref qyn) (C := RX6) (T := TX6) (N := 16) hx hb hts k_X6_cancel_inX6 hown hK hP 0 rfl rfl 1 (by decide) (hts _ k_X6_cancel_f7) (fun _ h9 => h9) rfl dX6_cancel_41 ?_
      refine lv_bipush (v := 42) hx hb dX6_cancel_44 (by decide) ?_
      refine lv_dup2_11 hx hb dX6_cancel_46 rfl rfl ?_
      obtain ⟨h10, hw⟩ := hw
      refine va_iald hx hb hK hP 1 0 rfl rfl h10 dX6_cancel_47 ?_
      refine lv_iconst (v := 1) hx hb dX6_cancel_48 (by decide) ?_
      refine lv_iload_n hx hb dX6_cancel_49 rfl (lv_at hl 1 rfl) ?_
      refine lv_ishl hx hb dX6_cancel_50 ?_
      refine lv_isub hx hb dX6_cancel_51 ?_
      obtain ⟨h11, hw⟩ := hw
      refine va_iast hx hb hK hP hD hS 1 0 rfl rfl h11 dX6_cancel_52 (fun H locs hP hD hS => ?_)
      have hP : va_P (gD G) vwCl (w0_X6_cancel G qy qyn qyt qyu qyf qyr qyb qyk qyi qyx (upd yn (42 : Int32).toNatClampNeg ((yn (42 : Int32).toNatClampNeg) - ((1 : Int32) <<< (x1 &&& 31)))) yt yu yf yr yb_8 yk yi yx za_6 zs_9 zl zt zg zr zm) H := hP
      have hD : va_D A (w0_X6_cancel G qy qyn qyt qyu qyf qyr qyb qyk qyi qyx (upd yn (42 : Int32).toNatClampNeg ((yn (42 : Int32).toNatClampNeg) - ((1 : Int32) <<< (x1 &&& 31)))) yt yu yf yr yb_8 yk yi yx za_6 zs_9 zl zt zg zr zm) := hD
      refine lv_aload_n hx hb dX6_cancel_53 rfl (lv_at hl 0 rfl) ?_
      refine kcR_i (kr_V [] ⟨hx, hb, hml, hown, hts⟩ (cn_X6_fameOfBooked l G qy qyn qyt qyu qyf qyr qyb qyk qyi qyx (upd yn (42 : Int32).toNatClampNeg ((yn (42 : Int32).toNatClampNeg) - ((1 : Int32) <<< (x1 &&& 31)))) yt yu yf yr yb_8 yk yi yx za_6 zs_9 zl zt zg zr zm hw H.size) (cwV 0 hts gX6_cancel_X6_fameOfBooked rfl rfl rfl (by decide +kernel) ⟨Nat.le_of_ble_eq_true rfl, Nat.le_of_ble_eq_true rfl⟩) hK hG hP hD hS hA [0, 1, 2, 3, 4, 5, 6, 7, 8, 9] rfl rfl 6 0 rfl rfl rfl hl.1 rfl (Nat.le_of_ble_eq_true rfl) dX6_cancel_54 ⟨Nat.le_of_ble_eq_true rfl, Nat.le_of_ble_eq_true rfl⟩) hP hD hS hA [0, 1, 2, 3, 4, 5, 6, 7, 8, 9] rfl (fun r12 u H locs hw hP hS => ?_)
      try dsimp only at hw
      exact fin_i ((upd yn (42 : Int32).toNatClampNeg ((yn (42 : Int32).toNatClampNeg) - ((1 : Int32) <<< (x1 &&& 31)))), yb_8, za_6, zs_9) hx hb hr hlocks hK hS hP hD hw dX6_cancel_57
    · have hw := hw.2 cd7
      refine lv_iconst (v := 0) hx hb dX6_cancel_34 (by decide) ?_
      exact fin_i (yn, yb, za_6, zs) hx hb hr hlocks hK hS hP hD hw dX6_cancel_35
  unfold wn_X6_cancel at hw
  refine lv_aload_n hx hb dX6_cancel_0 rfl (lv_at hl 0 rfl) ?_
  refine lv_iload_n hx hb dX6_cancel_1 rfl (lv_at hl 1 rfl) ?_
  refine kcR_i (kr_V [] ⟨hx, hb, hml, hown, hts⟩ (cn_X6_isThere l G qy qyn qyt qyu qyf qyr qyb qyk qyi qyx yn yt yu yf yr yb yk yi yx za zs zl zt zg zr zm a1 hw H.size) (cwV 1 hts gX6_cancel_X6_isThere rfl rfl rfl (by decide +kernel) ⟨Nat.le_of_ble_eq_true rfl, Nat.le_of_ble_eq_true rfl⟩) hK hG hP hD hS hA [0, 1, 2, 3, 4, 5, 6, 7, 8, 9] rfl rfl 6 0 rfl rfl rfl hl.1 rfl (Nat.le_of_ble_eq_true rfl) dX6_cancel_2 ⟨Nat.le_of_ble_eq_true rfl, Nat.le_of_ble_eq_true rfl⟩) hP hD hS hA [0, 1, 2, 3, 4, 5, 6, 7, 8, 9] rfl (fun r1 u H locs hw hP hS => ?_)
  try dsimp only at hw
  obtain ⟨hz_r1, hw⟩ := hw
  refine lv_istore_n (lv' := [(2, .int r1), (0, .ref qy), (1, .int a1)]) hx hb dX6_cancel_5 rfl hl (by decide) rfl (fun ls hl => ?_)
  refine lv_aload_n hx hb dX6_cancel_6 rfl (lv_at hl 1 rfl) ?_
  refine lv_iload_n hx hb dX6_cancel_7 rfl (lv_at hl 0 rfl) ?_
  refine lv_if_ne (tgt := 15) hx hb dX6_cancel_8 (by decide) (fun cd2 => ?_) (fun cd2 => ?_)
  · have hw := hw.1 cd2
    refine lv_aload_n hx hb dX6_cancel_15 rfl (lv_at hl 1 rfl) ?_
    refine lv_iload_n hx hb dX6_cancel_16 rfl (lv_at hl 2 rfl) ?_
    refine kcR_i (kr_V [.ref qy] ⟨hx, hb, hml, hown, hts⟩ (cn_X6_isIn l G qy qyn qyt qyu qyf qyr qyb qyk qyi qyx yn yt yu yf yr yb yk yi yx za zs zl zt zg zr zm a1 hw H.size) (cwV 1 hts gX6_cancel_X6_isIn rfl rfl rfl (by decide +kernel) ⟨Nat.le_of_ble_eq_true rfl, Nat.le_of_ble_eq_true rfl⟩) hK hG hP hD hS hA [0, 1, 2, 3, 4, 5, 6, 7, 8, 9] rfl rfl 6 0 rfl rfl rfl hl.1 rfl (Nat.le_of_ble_eq_true rfl) dX6_cancel_17 ⟨Nat.le_of_ble_eq_true rfl, Nat.le_of_ble_eq_true rfl⟩) hP hD hS hA [0, 1, 2, 3, 4, 5, 6, 7, 8, 9] rfl (fun r3 u H locs hw hP hS => ?_)
    try dsimp only at hw
    obtain ⟨hz_r3, hw⟩ := hw
    refine lv_if_ne (tgt := 27) hx hb dX6_cancel_20 (by decide) (fun cd4 => ?_) (fun cd4 => ?_)
    · have hw := hw.1 cd4
      refine lv_iconst (v := 0) hx hb dX6_cancel_27 (by decide) ?_
      exact J28 yn yb za zs a1 r1 (0 : Int32) _ _ _ hz_r1 hP hD hS (lv_sub hl [1, 2, 0] rfl) hw
    · have hw := hw.2 cd4
      refine lv_iconst (v := 2) hx hb dX6_cancel_23 (by decide) ?_
      refine lv_goto (tgt := 28) hx hb dX6_cancel_24 (by decide) ?_
      exact J28 yn yb za zs a1 r1 (2 : Int32) _ _ _ hz_r1 hP hD hS (lv_sub hl [1, 2, 0] rfl) hw
  · have hw := hw.2 cd2
    refine lv_iconst (v := 1) hx hb dX6_cancel_11 (by decide) ?_
    refine lv_goto (tgt := 28) hx hb dX6_cancel_12 (by decide) ?_
    exact J28 yn yb za zs a1 r1 (1 : Int32) _ _ _ hz_r1 hP hD hS (lv_sub hl [1, 2, 0] rfl) hw

abbrev w0_X6_bookBest (G : mG) (qy : Nat) (qyn : Nat) (qyt : Nat) (qyu : Nat) (qyf : Nat) (qyr : Nat) (qyb : Nat) (qyk : Nat) (qyi : Nat) (qyx : Nat) (yn : Nat → Int32) (yt : Nat → Int32) (yu : Nat → Int32) (yf : Nat → Int32) (yr : Nat → Int32) (yb : Nat → Int32) (yk : Nat → Int32) (yi : Nat → Int32) (yx : Nat → Int32) (za : Int32) (zs : Int32) (zl : Int32) (zt : Int32) (zg : Int32) (zr : Int32) (zm : Int32) : va_W := [(qy, .inr (6, [.int za, .ref qyn, .ref qyt, .ref qyu, .ref qyf, .ref qyr, .ref qyb, .int zs, .ref qyk, .ref qyi, .ref qyx, .int zl, .int zt, .int zg, .int zr, .int zm])), (qyn, .inl (gI G, (45, .inl yn))), (qyt, .inl (gI G, (45, .inl yt))), (qyu, .inl (gI G, (16384, .inl yu))), (qyf, .inl (gI G, (14, .inl yf))), (qyr, .inl (gI G, (14, .inl yr))), (qyb, .inl (gI G, (270, .inl yb))), (qyk, .inl (gI G, (90, .inl yk))), (qyi, .inl (gZ G, (2, .inl yi))), (qyx, .inl (gI G, (60, .inl yx)))]
set_option maxRecDepth 100000 in
theorem k_X6_bookBest_inX6 : ∀ w ∈ u_ws RX6 TX6 16, w ∈ wsX6_bookBest := by decide +kernel
set_option maxRecDepth 100000 in
theorem k_X6_bookBest_f38 : Cond.fieldLink RX6 38 "RehearsalRoomModel" "refusal" "I" ∈ wsX6_bookBest := by decide +kernel
set_option maxRecDepth 100000 in
theorem k_X6_bookBest_f7 : Cond.fieldLink RX6 7 "RehearsalRoomModel" "now" "[I" ∈ wsX6_bookBest := by decide +kernel
set_option maxHeartbeats 8000000 in
set_option maxRecDepth 100000 in
theorem cn_X6_bookBest (l : Launch) (G : mG) (qy : Nat) (qyn : Nat) (qyt : Nat) (qyu : Nat) (qyf : Nat) (qyr : Nat) (qyb : Nat) (qyk : Nat) (qyi : Nat) (qyx : Nat) (yn : Nat → Int32) (yt : Nat → Int32) (yu : Nat → Int32) (yf : Nat → Int32) (yr : Nat → Int32) (yb : Nat → Int32) (yk : Nat → Int32) (yi : Nat → Int32) (yx : Nat → Int32) (za : Int32) (zs : Int32) (zl : Int32) (zt : Int32) (zg : Int32) (zr : Int32) (zm : Int32) {Q : Int32 → (Nat → Int32) → (Nat → Int32) → (Nat → Int32) → (Nat → Int32) → Int32 → Int32 → Prop} (hw : wn_X6_bookBest yn yu yf yb za zs Q) (sz : Nat) :
    Met l yX6_bookBest wsX6_bookBest ({ frames := 3, cells := 0, slots := 0, locals := 71 } : Room) (va_Pc [.ref qy] (mPre G (w0_X6_bookBest G qy qyn qyt qyu qyf qyr qyb qyk qyi qyx yn yt yu yf yr yb yk yi yx za zs zl zt zg zr zm) sz)) (va_Qi (fun (r : Int32) (u : (Nat → Int32) × (Nat → Int32) × (Nat → Int32) × (Nat → Int32) × Int32 × Int32) => Q r u.1 u.2.1 u.2.2.1 u.2.2.2.1 u.2.2.2.2.1 u.2.2.2.2.2) (mBk G (va_A (w0_X6_bookBest G qy qyn qyt qyu qyf qyr qyb qyk qyi qyx yn yt yu yf yr yb yk yi yx za zs zl zt zg zr zm) sz) (fun (u : (Nat → Int32) × (Nat → Int32) × (Nat → Int32) × (Nat → Int32) × Int32 × Int32) => (w0_X6_bookBest G qy qyn qyt qyu qyf qyr qyb qyk qyi qyx u.1 yt u.2.1 u.2.2.1 yr u.2.2.2.1 yk yi yx u.2.2.2.2.1 u.2.2.2.2.2 zl zt zg zr zm))) (va_A (w0_X6_bookBest G qy qyn qyt qyu qyf qyr qyb qyk qyi qyx yn yt yu yf yr yb yk yi yx za zs zl zt zg zr zm) sz)) 0 0 (va_A (w0_X6_bookBest G qy qyn qyt qyu qyf qyr qyb qyk qyi qyx yn yt yu yf yr yb yk yi yx za zs zl zt zg zr zm) sz) := by
  refine ms_i (cc := cX6_bookBest) (maxL := 1) (ret := some .int) (post := (fun (r : Int32) (u : (Nat → Int32) × (Nat → Int32) × (Nat → Int32) × (Nat → Int32) × Int32 × Int32) => Q r u.1 u.2.1 u.2.2.1 u.2.2.2.1 u.2.2.2.2.1 u.2.2.2.2.2)) (w1 := (fun (u : (Nat → Int32) × (Nat → Int32) × (Nat → Int32) × (Nat → Int32) × Int32 × Int32) => (w0_X6_bookBest G qy qyn qyt qyu qyf qyr qyb qyk qyi qyx u.1 yt u.2.1 u.2.2.1 yr u.2.2.2.1 yk yi yx u.2.2.2.2.1 u.2.2.2.2.2 zl zt zg zr zm))) (by decide) rfl (Nat.le_of_ble_eq_true rfl) ?_ sz
  intro p e s m below meth c A ls H locs hx hb hr hml hown hts hlocks hK hG hP hD hS hA hl
  have hown : s.vm.findClass RX6 = some m.cls := hown
  have hl : lv_has ls 1 [(0, .ref qy)] := hl
  unfold wn_X6_bookBest at hw
  refine lv_aload_n hx hb dX6_bookBest_0 rfl (lv_at hl 0 rfl) ?_
  refine lv_iconst (v := 0) hx hb dX6_bookBest_1 (by decide) ?_
  refine va_put (D := gD G) (ci := 6) (v := .int (0 : Int32)) (ty := .int) (C := RX6) (T := TX6) (N := 16) hx hb hts k_X6_bookBest_inX6 tyX6 tyX6_ok nmX6 hown hK hP hD hS 0 rfl rfl 0 (by decide) (hts _ k_X6_bookBest_f38) (fun _ h9 => h9) rfl (by decide +kernel) rfl rfl (Nat.le_of_ble_eq_true rfl) dX6_bookBest_2 (fun H locs hP hD hS => ?_)
  have hP : va_P (gD G) vwCl (w0_X6_bookBest G qy qyn qyt qyu qyf qyr qyb qyk qyi qyx yn yt yu yf yr yb yk yi yx (0 : Int32) zs zl zt zg zr zm) H := hP
  have hD : va_D A (w0_X6_bookBest G qy qyn qyt qyu qyf qyr qyb qyk qyi qyx yn yt yu yf yr yb yk yi yx (0 : Int32) zs zl zt zg zr zm) := hD
  refine lv_aload_n hx hb dX6_bookBest_5 rfl (lv_at hl 0 rfl) ?_
  refine kc_v (kr_V [] ⟨hx, hb, hml, hown, hts⟩ (cn_X6_save l G qy qyn qyt qyu qyf qyr qyb qyk qyi qyx yn yt yu yf yr yb yk yi yx (0 : Int32) zs zl zt zg zr zm hw H.size) (cwV 0 hts gX6_bookBest_X6_save rfl rfl rfl (by decide +kernel) ⟨Nat.le_of_ble_eq_true rfl, Nat.le_of_ble_eq_true rfl⟩) hK hG hP hD hS hA [0, 1, 2, 3, 4, 5, 6, 7, 8, 9] rfl rfl 6 0 rfl rfl rfl hl.1 rfl (Nat.le_of_ble_eq_true rfl) dX6_bookBest_6 ⟨Nat.le_of_ble_eq_true rfl, Nat.le_of_ble_eq_true rfl⟩) hP hD hS hA [0, 1, 2, 3, 4, 5, 6, 7, 8, 9] [] rfl rfl rfl (by decide) (fun u H locs hw hP hD hS => ?_)
  obtain ⟨yb_1, zs_2⟩ := u
  try dsimp only at hw
  have hP := hP.sub (ws' := (w0_X6_bookBest G qy qyn qyt qyu qyf qyr qyb qyk qyi qyx yn yt yu yf yr yb_1 yk yi yx (0 : Int32) zs_2 zl zt zg zr zm)) [0, 1, 2, 3, 4, 5, 6, 7, 8, 9] rfl
  have hD := hD.sub (ws' := (w0_X6_bookBest G qy qyn qyt qyu qyf qyr qyb qyk qyi qyx yn yt yu yf yr yb_1 yk yi yx (0 : Int32) zs_2 zl zt zg zr zm)) [0, 1, 2, 3, 4, 5, 6, 7, 8, 9] rfl rfl
  refine lv_aload_n hx hb dX6_bookBest_9 rfl (lv_at hl 0 rfl) ?_
  refine va_get (D := gD G) (ci := 6) (v := .ref qyn) (C := RX6) (T := TX6) (N := 16) hx hb hts k_X6_bookBest_inX6 hown hK hP 0 rfl rfl 1 (by decide) (hts _ k_X6_bookBest_f7) (fun _ h9 => h9) rfl dX6_bookBest_10 ?_
  refine lv_bipush (v := 42) hx hb dX6_bookBest_13 (by decide) ?_
  refine lv_aload_n hx hb dX6_bookBest_15 rfl (lv_at hl 0 rfl) ?_
  refine lv_aload_n hx hb dX6_bookBest_16 rfl (lv_at hl 0 rfl) ?_
  refine kc_i (kr_V [.ref qy, .int (42 : Int32), .ref qyn] ⟨hx, hb, hml, hown, hts⟩ (cn_X6_fill l G qy qyn qyt qyu qyf qyr qyb qyk qyi qyx yn yt yu yf yr yb_1 yk yi yx (0 : Int32) zs_2 zl zt zg zr zm hw H.size) (cwV 0 hts gX6_bookBest_X6_fill rfl rfl rfl (by decide +kernel) ⟨Nat.le_of_ble_eq_true rfl, Nat.le_of_ble_eq_true rfl⟩) hK hG hP hD hS hA [0, 1, 2, 3, 4, 5, 6, 7, 8, 9] rfl rfl 6 0 rfl rfl rfl hl.1 rfl (Nat.le_of_ble_eq_true rfl) dX6_bookBest_17 ⟨Nat.le_of_ble_eq_true rfl, Nat.le_of_ble_eq_true rfl⟩) hP hD hS hA [0, 1, 2, 3, 4, 5, 6, 7, 8, 9] [] rfl rfl rfl (by decide) (fun r3 u H locs hw hP hD hS => ?_)
  obtain ⟨yu_4, yf_5⟩ := u
  try dsimp only at hw
  have hP := hP.sub (ws' := (w0_X6_bookBest G qy qyn qyt qyu qyf qyr qyb qyk qyi qyx yn yt yu_4 yf_5 yr yb_1 yk yi yx (0 : Int32) zs_2 zl zt zg zr zm)) [0, 1, 2, 3, 4, 5, 6, 7, 8, 9] rfl
  have hD := hD.sub (ws' := (w0_X6_bookBest G qy qyn qyt qyu qyf qyr qyb qyk qyi qyx yn yt yu_4 yf_5 yr yb_1 yk yi yx (0 : Int32) zs_2 zl zt zg zr zm)) [0, 1, 2, 3, 4, 5, 6, 7, 8, 9] rfl rfl
  refine lv_iconst (v := 0) hx hb dX6_bookBest_20 (by decide) ?_
  refine kcR_i (kr_V [.int (42 : Int32), .ref qyn] ⟨hx, hb, hml, hown, hts⟩ (cn_X6_bestSet l G qy qyn qyt qyu qyf qyr qyb qyk qyi qyx yn yt yu_4 yf_5 yr yb_1 yk yi yx (0 : Int32) zs_2 zl zt zg zr zm r3 (0 : Int32) hw H.size) (cwV 2 hts gX6_bookBest_X6_bestSet rfl rfl rfl (by decide +kernel) ⟨Nat.le_of_ble_eq_true rfl, Nat.le_of_ble_eq_true rfl⟩) hK hG hP hD hS hA [0, 1, 2, 3, 4, 5, 6, 7, 8, 9] rfl rfl 6 0 rfl rfl rfl hl.1 rfl (Nat.le_of_ble_eq_true rfl) dX6_bookBest_21 ⟨Nat.le_of_ble_eq_true rfl, Nat.le_of_ble_eq_true rfl⟩) hP hD hS hA [0, 1, 2, 3, 4, 5, 6, 7, 8, 9] rfl (fun r6 u H locs hw hP hS => ?_)
  try dsimp only at hw
  obtain ⟨h7, hw⟩ := hw
  refine va_iast hx hb hK hP hD hS 1 0 rfl rfl h7 dX6_bookBest_24 (fun H locs hP hD hS => ?_)
  have hP : va_P (gD G) vwCl (w0_X6_bookBest G qy qyn qyt qyu qyf qyr qyb qyk qyi qyx (upd yn (42 : Int32).toNatClampNeg r6) yt yu_4 yf_5 yr yb_1 yk yi yx (0 : Int32) zs_2 zl zt zg zr zm) H := hP
  have hD : va_D A (w0_X6_bookBest G qy qyn qyt qyu qyf qyr qyb qyk qyi qyx (upd yn (42 : Int32).toNatClampNeg r6) yt yu_4 yf_5 yr yb_1 yk yi yx (0 : Int32) zs_2 zl zt zg zr zm) := hD
  refine lv_aload_n hx hb dX6_bookBest_25 rfl (lv_at hl 0 rfl) ?_
  refine va_get (D := gD G) (ci := 6) (v := .ref qyn) (C := RX6) (T := TX6) (N := 16) hx hb hts k_X6_bookBest_inX6 hown hK hP 0 rfl rfl 1 (by decide) (hts _ k_X6_bookBest_f7) (fun _ h9 => h9) rfl dX6_bookBest_26 ?_
  refine lv_bipush (v := 42) hx hb dX6_bookBest_29 (by decide) ?_
  obtain ⟨h8, hw⟩ := hw
  refine va_iald hx hb hK hP 1 0 rfl rfl h8 dX6_bookBest_31 ?_
  refine kcR_i (kr_S [] ⟨hx, hb, hml, hown, hts⟩ (cn_X6_bits l G ((upd yn (42 : Int32).toNatClampNeg r6) (42 : Int32).toNatClampNeg) hw H.size) (va_cwS 1 hts gX6_bookBest_X6_bits rfl rfl rfl (by decide +kernel) ⟨Nat.le_of_ble_eq_true rfl, Nat.le_of_ble_eq_true rfl⟩) hK hG hP hD hS hA [] rfl rfl rfl hl.1 rfl (Nat.le_of_ble_eq_true rfl) dX6_bookBest_32 ⟨Nat.le_of_ble_eq_true rfl, Nat.le_of_ble_eq_true rfl⟩) hP hD hS hA [] rfl (fun r9 u H locs hw hP hS => ?_)
  try dsimp only at hw
  exact fin_i ((upd yn (42 : Int32).toNatClampNeg r6), yu_4, yf_5, yb_1, (0 : Int32), zs_2) hx hb hr hlocks hK hS hP hD hw dX6_bookBest_35

abbrev w0_X6_append (G : mG) (qy : Nat) (qyn : Nat) (qyt : Nat) (qyu : Nat) (qyf : Nat) (qyr : Nat) (qyb : Nat) (qyk : Nat) (qyi : Nat) (qyx : Nat) (yn : Nat → Int32) (yt : Nat → Int32) (yu : Nat → Int32) (yf : Nat → Int32) (yr : Nat → Int32) (yb : Nat → Int32) (yk : Nat → Int32) (yi : Nat → Int32) (yx : Nat → Int32) (za : Int32) (zs : Int32) (zl : Int32) (zt : Int32) (zg : Int32) (zr : Int32) (zm : Int32) : va_W := [(qy, .inr (6, [.int za, .ref qyn, .ref qyt, .ref qyu, .ref qyf, .ref qyr, .ref qyb, .int zs, .ref qyk, .ref qyi, .ref qyx, .int zl, .int zt, .int zg, .int zr, .int zm])), (qyn, .inl (gI G, (45, .inl yn))), (qyt, .inl (gI G, (45, .inl yt))), (qyu, .inl (gI G, (16384, .inl yu))), (qyf, .inl (gI G, (14, .inl yf))), (qyr, .inl (gI G, (14, .inl yr))), (qyb, .inl (gI G, (270, .inl yb))), (qyk, .inl (gI G, (90, .inl yk))), (qyi, .inl (gZ G, (2, .inl yi))), (qyx, .inl (gI G, (60, .inl yx)))]
set_option maxRecDepth 100000 in
theorem k_X6_append_c112 : Cond.constantLong RX6 112 (33) ∈ wsX6_append := by decide +kernel
set_option maxRecDepth 100000 in
theorem k_X6_append_c114 : Cond.constantLong RX6 114 (126) ∈ wsX6_append := by decide +kernel
set_option maxRecDepth 100000 in
theorem k_X6_append_inX6 : ∀ w ∈ u_ws RX6 TX6 16, w ∈ wsX6_append := by decide +kernel
set_option maxRecDepth 100000 in
theorem k_X6_append_f116 : Cond.fieldLink RX6 116 "RehearsalRoomModel" "length" "I" ∈ wsX6_append := by decide +kernel
set_option maxRecDepth 100000 in
theorem k_X6_append_f35 : Cond.fieldLink RX6 35 "RehearsalRoomModel" "text" "[I" ∈ wsX6_append := by decide +kernel
set_option maxHeartbeats 8000000 in
set_option maxRecDepth 100000 in
theorem cn_X6_append (l : Launch) (G : mG) (qy : Nat) (qyn : Nat) (qyt : Nat) (qyu : Nat) (qyf : Nat) (qyr : Nat) (qyb : Nat) (qyk : Nat) (qyi : Nat) (qyx : Nat) (yn : Nat → Int32) (yt : Nat → Int32) (yu : Nat → Int32) (yf : Nat → Int32) (yr : Nat → Int32) (yb : Nat → Int32) (yk : Nat → Int32) (yi : Nat → Int32) (yx : Nat → Int32) (za : Int32) (zs : Int32) (zl : Int32) (zt : Int32) (zg : Int32) (zr : Int32) (zm : Int32) (a1 : Int32) {Q : Int32 → (Nat → Int32) → Int32 → Int32 → Prop} (hw : wn_X6_append yx za zl a1 Q) (sz : Nat) :
    Met l yX6_append wsX6_append ({ frames := 1, cells := 0, slots := 0, locals := 25 } : Room) (va_Pc [.ref qy, .int a1] (mPre G (w0_X6_append G qy qyn qyt qyu qyf qyr qyb qyk qyi qyx yn yt yu yf yr yb yk yi yx za zs zl zt zg zr zm) sz)) (va_Qi (fun (r : Int32) (u : (Nat → Int32) × Int32 × Int32) => Q r u.1 u.2.1 u.2.2) (mBk G (va_A (w0_X6_append G qy qyn qyt qyu qyf qyr qyb qyk qyi qyx yn yt yu yf yr yb yk yi yx za zs zl zt zg zr zm) sz) (fun (u : (Nat → Int32) × Int32 × Int32) => (w0_X6_append G qy qyn qyt qyu qyf qyr qyb qyk qyi qyx yn yt yu yf yr yb yk yi u.1 u.2.1 zs u.2.2 zt zg zr zm))) (va_A (w0_X6_append G qy qyn qyt qyu qyf qyr qyb qyk qyi qyx yn yt yu yf yr yb yk yi yx za zs zl zt zg zr zm) sz)) 0 0 (va_A (w0_X6_append G qy qyn qyt qyu qyf qyr qyb qyk qyi qyx yn yt yu yf yr yb yk yi yx za zs zl zt zg zr zm) sz) := by
  refine ms_i (cc := cX6_append) (maxL := 2) (ret := some .int) (post := (fun (r : Int32) (u : (Nat → Int32) × Int32 × Int32) => Q r u.1 u.2.1 u.2.2)) (w1 := (fun (u : (Nat → Int32) × Int32 × Int32) => (w0_X6_append G qy qyn qyt qyu qyf qyr qyb qyk qyi qyx yn yt yu yf yr yb yk yi u.1 u.2.1 zs u.2.2 zt zg zr zm))) (by decide) rfl (Nat.le_of_ble_eq_true rfl) ?_ sz
  intro p e s m below meth c A ls H locs hx hb hr hml hown hts hlocks hK hG hP hD hS hA hl
  have hown : s.vm.findClass RX6 = some m.cls := hown
  have hl : lv_has ls 2 [(0, .ref qy), (1, .int a1)] := hl
  have J33 : ∀ (yx : Nat → Int32) (za : Int32) (zl : Int32) (x1 : Int32) (y1 : Int32) (H : Heap) (locs : List Loc) (ls : Array Slot), va_P (gD G) vwCl (w0_X6_append G qy qyn qyt qyu qyf qyr qyb qyk qyi qyx yn yt yu yf yr yb yk yi yx za zs zl zt zg zr zm) H → va_D A (w0_X6_append G qy qyn qyt qyu qyf qyr qyb qyk qyi qyx yn yt yu yf yr yb yk yi yx za zs zl zt zg zr zm) → va_S A s.heap H locs → lv_has ls 2 [(0, .ref qy), (1, .int x1)] → wj_n_X6_append_33 Q yx za zl x1 y1 → W p l e ({ frames := 1, cells := 0, slots := 0, locals := 25 } : Room) s m ([.ref qy, .int a1] : List Value).toArray below meth c H locs 0 0 (MQ below (va_Qi (fun (r : Int32) (u : (Nat → Int32) × Int32 × Int32) => Q r u.1 u.2.1 u.2.2) (mBk G A (fun (u : (Nat → Int32) × Int32 × Int32) => (w0_X6_append G qy qyn qyt qyu qyf qyr qyb qyk qyi qyx yn yt yu yf yr yb yk yi u.1 u.2.1 zs u.2.2 zt zg zr zm))) A) ([.ref qy, .int a1] : List Value).toArray s 0 0 A) (F0 m 33 ls [.int y1, .ref qy]) := by
    intro yx za zl x1 y1 H locs ls hP hD hS hl hw
    unfold wj_n_X6_append_33 at hw
    refine kc_i (kr_V [] ⟨hx, hb, hml, hown, hts⟩ (cn_X6_refused l G qy qyn qyt qyu qyf qyr qyb qyk qyi qyx yn yt yu yf yr yb yk yi yx za zs zl zt zg zr zm y1 hw H.size) (cwV 1 hts gX6_append_X6_refused rfl rfl rfl (by decide +kernel) ⟨Nat.le_of_ble_eq_true rfl, Nat.le_of_ble_eq_true rfl⟩) hK hG hP hD hS hA [0, 1, 2, 3, 4, 5, 6, 7, 8, 9] rfl rfl 6 0 rfl rfl rfl hl.1 rfl (Nat.le_of_ble_eq_true rfl) dX6_append_33 ⟨Nat.le_of_ble_eq_true rfl, Nat.le_of_ble_eq_true rfl⟩) hP hD hS hA [0, 1, 2, 3, 4, 5, 6, 7, 8, 9] [] rfl rfl rfl (by decide) (fun r4 u H locs hw hP hD hS => ?_)
    obtain ⟨za_5, rfl⟩ : ∃ z, z = u := ⟨_, rfl⟩
    try dsimp only at hw
    have hP := hP.sub (ws' := (w0_X6_append G qy qyn qyt qyu qyf qyr qyb qyk qyi qyx yn yt yu yf yr yb yk yi yx za_5 zs zl zt zg zr zm)) [0, 1, 2, 3, 4, 5, 6, 7, 8, 9] rfl
    have hD := hD.sub (ws' := (w0_X6_append G qy qyn qyt qyu qyf qyr qyb qyk qyi qyx yn yt yu yf yr yb yk yi yx za_5 zs zl zt zg zr zm)) [0, 1, 2, 3, 4, 5, 6, 7, 8, 9] rfl rfl
    obtain ⟨hz_r4, hw⟩ := hw
    refine lv_if_eq (tgt := 41) hx hb dX6_append_36 (by decide) (fun cd6 => ?_) (fun cd6 => ?_)
    · have hw := hw.1 cd6
      refine lv_aload_n hx hb dX6_append_41 rfl (lv_at hl 0 rfl) ?_
      refine va_get (D := gD G) (ci := 6) (v := .ref qyx) (C := RX6) (T := TX6) (N := 16) hx hb hts k_X6_append_inX6 hown hK hP 0 rfl rfl 10 (by decide) (hts _ k_X6_append_f35) (fun _ h9 => h9) rfl dX6_append_42 ?_
      refine lv_aload_n hx hb dX6_append_45 rfl (lv_at hl 0 rfl) ?_
      refine va_get (D := gD G) (ci := 6) (v := .int zl) (C := RX6) (T := TX6) (N := 16) hx hb hts k_X6_append_inX6 hown hK hP 0 rfl rfl 11 (by decide) (hts _ k_X6_append_f116) (fun _ h9 => h9) rfl dX6_append_46 ?_
      refine lv_iload_n hx hb dX6_append_49 rfl (lv_at hl 1 rfl) ?_
      obtain ⟨h7, hw⟩ := hw
      refine va_iast hx hb hK hP hD hS 9 0 rfl rfl h7 dX6_append_50 (fun H locs hP hD hS => ?_)
      have hP : va_P (gD G) vwCl (w0_X6_append G qy qyn qyt qyu qyf qyr qyb qyk qyi qyx yn yt yu yf yr yb yk yi (upd yx zl.toNatClampNeg x1) za_5 zs zl zt zg zr zm) H := hP
      have hD : va_D A (w0_X6_append G qy qyn qyt qyu qyf qyr qyb qyk qyi qyx yn yt yu yf yr yb yk yi (upd yx zl.toNatClampNeg x1) za_5 zs zl zt zg zr zm) := hD
      refine lv_aload_n hx hb dX6_append_51 rfl (lv_at hl 0 rfl) ?_
      refine lv_dup hx hb dX6_append_52 rfl ?_
      refine va_get (D := gD G) (ci := 6) (v := .int zl) (C := RX6) (T := TX6) (N := 16) hx hb hts k_X6_append_inX6 hown hK hP 0 rfl rfl 11 (by decide) (hts _ k_X6_append_f116) (fun _ h9 => h9) rfl dX6_append_53 ?_
      refine lv_iconst (v := 1) hx hb dX6_append_56 (by decide) ?_
      refine lv_iadd hx hb dX6_append_57 ?_
      refine va_put (D := gD G) (ci := 6) (v := .int (zl + (1 : Int32))) (ty := .int) (C := RX6) (T := TX6) (N := 16) hx hb hts k_X6_append_inX6 tyX6 tyX6_ok nmX6 hown hK hP hD hS 0 rfl rfl 11 (by decide) (hts _ k_X6_append_f116) (fun _ h9 => h9) rfl (by decide +kernel) rfl rfl (Nat.le_of_ble_eq_true rfl) dX6_append_58 (fun H locs hP hD hS => ?_)
      have hP : va_P (gD G) vwCl (w0_X6_append G qy qyn qyt qyu qyf qyr qyb qyk qyi qyx yn yt yu yf yr yb yk yi (upd yx zl.toNatClampNeg x1) za_5 zs (zl + (1 : Int32)) zt zg zr zm) H := hP
      have hD : va_D A (w0_X6_append G qy qyn qyt qyu qyf qyr qyb qyk qyi qyx yn yt yu yf yr yb yk yi (upd yx zl.toNatClampNeg x1) za_5 zs (zl + (1 : Int32)) zt zg zr zm) := hD
      refine lv_aload_n hx hb dX6_append_61 rfl (lv_at hl 0 rfl) ?_
      refine va_get (D := gD G) (ci := 6) (v := .int (zl + (1 : Int32))) (C := RX6) (T := TX6) (N := 16) hx hb hts k_X6_append_inX6 hown hK hP 0 rfl rfl 11 (by decide) (hts _ k_X6_append_f116) (fun _ h9 => h9) rfl dX6_append_62 ?_
      exact fin_i ((upd yx zl.toNatClampNeg x1), za_5, (zl + (1 : Int32))) hx hb hr hlocks hK hS hP hD hw dX6_append_65
    · have hw := hw.2 cd6
      refine lv_iconst (v := 0) hx hb dX6_append_39 (by decide) ?_
      exact fin_i (yx, za_5, zl) hx hb hr hlocks hK hS hP hD hw dX6_append_40
  unfold wn_X6_append at hw
  refine lv_aload_n hx hb dX6_append_0 rfl (lv_at hl 0 rfl) ?_
  refine lv_iload_n hx hb dX6_append_1 rfl (lv_at hl 1 rfl) ?_
  refine lv_i2l hx hb dX6_append_2 rfl ?_
  refine lv_ldc2 (v := 33) hx hb hown (hts _ k_X6_append_c112) dX6_append_3 ?_
  refine lv_ldc2 (v := 126) hx hb hown (hts _ k_X6_append_c114) dX6_append_6 ?_
  refine kcR_i (kr_S [.ref qy] ⟨hx, hb, hml, hown, hts⟩ (cn_X6_in l G a1.toInt64 (33 : Int64) (126 : Int64) hw H.size) (va_cwS 3 hts gX6_append_X6_in rfl rfl rfl (by decide +kernel) ⟨Nat.le_of_ble_eq_true rfl, Nat.le_of_ble_eq_true rfl⟩) hK hG hP hD hS hA [] rfl rfl rfl hl.1 rfl (Nat.le_of_ble_eq_true rfl) dX6_append_9 ⟨Nat.le_of_ble_eq_true rfl, Nat.le_of_ble_eq_true rfl⟩) hP hD hS hA [] rfl (fun r1 u H locs hw hP hS => ?_)
  try dsimp only at hw
  obtain ⟨hz_r1, hw⟩ := hw
  refine lv_if_ne (tgt := 19) hx hb dX6_append_12 (by decide) (fun cd2 => ?_) (fun cd2 => ?_)
  · have hw := hw.1 cd2
    refine lv_aload_n hx hb dX6_append_19 rfl (lv_at hl 0 rfl) ?_
    refine va_get (D := gD G) (ci := 6) (v := .int zl) (C := RX6) (T := TX6) (N := 16) hx hb hts k_X6_append_inX6 hown hK hP 0 rfl rfl 11 (by decide) (hts _ k_X6_append_f116) (fun _ h9 => h9) rfl dX6_append_20 ?_
    refine lv_bipush (v := 60) hx hb dX6_append_23 (by decide) ?_
    refine lv_icmp_ne (tgt := 32) hx hb dX6_append_25 (by decide) (fun cd3 => ?_) (fun cd3 => ?_)
    · have hw := hw.1 cd3
      refine lv_iconst (v := 0) hx hb dX6_append_32 (by decide) ?_
      exact J33 yx za zl a1 (0 : Int32) _ _ _ hP hD hS hl hw
    · have hw := hw.2 cd3
      refine lv_iconst (v := 2) hx hb dX6_append_28 (by decide) ?_
      refine lv_goto (tgt := 33) hx hb dX6_append_29 (by decide) ?_
      exact J33 yx za zl a1 (2 : Int32) _ _ _ hP hD hS hl hw
  · have hw := hw.2 cd2
    refine lv_iconst (v := 1) hx hb dX6_append_15 (by decide) ?_
    refine lv_goto (tgt := 33) hx hb dX6_append_16 (by decide) ?_
    exact J33 yx za zl a1 (1 : Int32) _ _ _ hP hD hS hl hw
