section JDKF
theorem mf_i {l : Launch} {y : MethodName} {ws ws' : List Cond} {rm : Room} {G : mG} {av : List Value} {w0 : va_W} {S : Type} {post : Int32 → S → Prop} {w1 : S → va_W} {mc ms : Nat} {cc : ByteArray} {maxL : Nat} {ret : Option FieldType}
    (hy : plainFor y = true) (hw : ws = Cond.code y cc maxL ret :: ws') (hl : (lg_sl av).length ≤ maxL)
    (body : ∀ (p : Program) (e : Env) (s : State) (m : MethodId) (below : List Frame) (meth : Method) (c : Code) (A : Nat → Prop) (ls : Array Slot) (H : Heap) (locs : List Loc), p.tables.exec = Jvm.exec → c.code = cc → meth.sig.returnType = ret → c.maxLocals = maxL → s.vm.findClass y.cls = some m.cls → (∀ w ∈ ws, w.before av.toArray s = true) → meth.locks = false → va_K (gD G) vwCl (mTY G) s → gOK G A s → va_P (gD G) vwCl w0 H → va_D A w0 → va_S A s.heap H locs → (∀ q, s.heap.size ≤ q → A q) → lv_has ls maxL (lv_args 0 av) →
      W p l e rm s m av.toArray below meth c H locs 0 0 (MQ below (va_Qi post (mBk G A w1) A) av.toArray s mc ms A) (F0 m 0 ls [])) (sz : Nat) : Met l y ws rm (va_Pc av (mPre G w0 sz)) (va_Qi post (mBk G (va_A w0 sz) w1) (va_A w0 sz)) mc ms (va_A w0 sz) := by
  refine va_MetF (cc := cc) (maxL := maxL) (ret := ret) hy hw ?_
  intro p e s m args below meth c s₁ B hml hv
  obtain ⟨rfl, hsz, hP, hK, hD0, hG⟩ := hv
  have hlocks := B.notSynchronized
  have hD := hD0.self (sz := sz)
  subst hsz
  rw [lg_entry_eq]
  exact body p e s m below meth c _ _ s.heap [] B.exec B.bytes B.returns hml (findClass_of_methodNamed B.named) (atoms_spec (ws := ws) B.pre) hlocks hK hG hP hD va_S.rf (fun q h => Or.inr h) (lv_entry av hl)
theorem mf_l {l : Launch} {y : MethodName} {ws ws' : List Cond} {rm : Room} {G : mG} {av : List Value} {w0 : va_W} {S : Type} {post : Int64 → S → Prop} {w1 : S → va_W} {mc ms : Nat} {cc : ByteArray} {maxL : Nat} {ret : Option FieldType}
    (hy : plainFor y = true) (hw : ws = Cond.code y cc maxL ret :: ws') (hl : (lg_sl av).length ≤ maxL)
    (body : ∀ (p : Program) (e : Env) (s : State) (m : MethodId) (below : List Frame) (meth : Method) (c : Code) (A : Nat → Prop) (ls : Array Slot) (H : Heap) (locs : List Loc), p.tables.exec = Jvm.exec → c.code = cc → meth.sig.returnType = ret → c.maxLocals = maxL → s.vm.findClass y.cls = some m.cls → (∀ w ∈ ws, w.before av.toArray s = true) → meth.locks = false → va_K (gD G) vwCl (mTY G) s → gOK G A s → va_P (gD G) vwCl w0 H → va_D A w0 → va_S A s.heap H locs → (∀ q, s.heap.size ≤ q → A q) → lv_has ls maxL (lv_args 0 av) →
      W p l e rm s m av.toArray below meth c H locs 0 0 (MQ below (va_Ql post (mBk G A w1) A) av.toArray s mc ms A) (F0 m 0 ls [])) (sz : Nat) : Met l y ws rm (va_Pc av (mPre G w0 sz)) (va_Ql post (mBk G (va_A w0 sz) w1) (va_A w0 sz)) mc ms (va_A w0 sz) := by
  refine va_MetF (cc := cc) (maxL := maxL) (ret := ret) hy hw ?_
  intro p e s m args below meth c s₁ B hml hv
  obtain ⟨rfl, hsz, hP, hK, hD0, hG⟩ := hv
  have hlocks := B.notSynchronized
  have hD := hD0.self (sz := sz)
  subst hsz
  rw [lg_entry_eq]
  exact body p e s m below meth c _ _ s.heap [] B.exec B.bytes B.returns hml (findClass_of_methodNamed B.named) (atoms_spec (ws := ws) B.pre) hlocks hK hG hP hD va_S.rf (fun q h => Or.inr h) (lv_entry av hl)
end JDKF
abbrev w0_Jxf58ca_isNaN_12338 (G : mG) : va_W := []
set_option maxHeartbeats 8000000 in
set_option maxRecDepth 100000 in
theorem cn_Jxf58ca_isNaN_12338 (l : Launch) (G : mG) (a0 : UInt32) {Q : Int32 → Prop} (hw : wn_Jxf58ca_isNaN_12338 a0 Q) (sz : Nat) :
    Met l yJxf58ca_isNaN_12338 wsJxf58ca_isNaN_12338 ({ frames := 0, cells := 0, slots := 0, locals := 0 } : Room) (va_Pc [.float a0] (mPre G (w0_Jxf58ca_isNaN_12338 G) sz)) (va_Qi (fun (r : Int32) (u : Unit) => (r = 0 ∨ r = 1) ∧ Q r) (mBk G (va_A (w0_Jxf58ca_isNaN_12338 G) sz) (fun (u : Unit) => (w0_Jxf58ca_isNaN_12338 G))) (va_A (w0_Jxf58ca_isNaN_12338 G) sz)) 0 0 (va_A (w0_Jxf58ca_isNaN_12338 G) sz) := by
  refine mf_i (cc := cJxf58ca_isNaN_12338) (maxL := 1) (ret := some .boolean) (post := (fun (r : Int32) (u : Unit) => (r = 0 ∨ r = 1) ∧ Q r)) (w1 := (fun (u : Unit) => (w0_Jxf58ca_isNaN_12338 G))) (by decide +kernel) rfl (Nat.le_of_ble_eq_true rfl) ?_ sz
  intro p e s m below meth c A ls H locs hx hb hr hml hown hts hlocks hK hG hP hD hS hA hl
  have hown : s.vm.findClass RJxf58ca = some m.cls := hown
  have hl : lv_has ls 1 [(0, .float a0)] := hl
  unfold wn_Jxf58ca_isNaN_12338 at hw
  refine lv_fload_n hx hb dJxf58ca_isNaN_12338_0 rfl (lv_at hl 0 rfl) ?_
  refine lv_fload_n hx hb dJxf58ca_isNaN_12338_1 rfl (lv_at hl 0 rfl) ?_
  refine lv_fcmp hx hb dJxf58ca_isNaN_12338_2 ?_
  refine lv_if_eq (tgt := 10) hx hb dJxf58ca_isNaN_12338_3 (by decide) (fun cd1 => ?_) (fun cd1 => ?_)
  · have hw := hw.1 cd1
    refine lv_iconst (v := 0) hx hb dJxf58ca_isNaN_12338_10 (by decide) ?_
    exact fin_z () hx hb hr (nz (Or.inl rfl)) hlocks hK hS hP hD ⟨(Or.inl rfl), hw⟩ dJxf58ca_isNaN_12338_11
  · have hw := hw.2 cd1
    refine lv_iconst (v := 1) hx hb dJxf58ca_isNaN_12338_6 (by decide) ?_
    refine lv_goto (tgt := 11) hx hb dJxf58ca_isNaN_12338_7 (by decide) ?_
    exact fin_z () hx hb hr (nz (Or.inr rfl)) hlocks hK hS hP hD ⟨(Or.inr rfl), hw⟩ dJxf58ca_isNaN_12338_11

abbrev w0_Jxf58ca_floatToIntBits_5c35a (G : mG) : va_W := []
set_option maxRecDepth 100000 in
theorem k_Jxf58ca_floatToIntBits_5c35a_c77 : Cond.constant RJxf58ca 77 (2143289344) ∈ wsJxf58ca_floatToIntBits_5c35a := by decide +kernel
set_option maxRecDepth 100000 in
theorem k_Jxf58ca_floatToIntBits_5c35a_m74 : Cond.methodLink RJxf58ca 74 (⟨"java/lang/Float", "floatToRawIntBits", "(F)I"⟩ : MethodName) ∈ wsJxf58ca_floatToIntBits_5c35a := by decide +kernel
set_option maxRecDepth 100000 in
theorem k_Jxf58ca_floatToIntBits_5c35a_mnat : Cond.native (⟨"java/lang/Float", "floatToRawIntBits", "(F)I"⟩ : MethodName) ∈ wsJxf58ca_floatToIntBits_5c35a := by decide +kernel
set_option maxRecDepth 100000 in
theorem k_Jxf58ca_floatToIntBits_5c35a_mst : Cond.static (⟨"java/lang/Float", "floatToRawIntBits", "(F)I"⟩ : MethodName) ∈ wsJxf58ca_floatToIntBits_5c35a := by decide +kernel
set_option maxRecDepth 100000 in
theorem k_Jxf58ca_floatToIntBits_5c35a_min : Cond.initialized "java/lang/Float" ∈ wsJxf58ca_floatToIntBits_5c35a := by decide +kernel
set_option maxHeartbeats 8000000 in
set_option maxRecDepth 100000 in
theorem cn_Jxf58ca_floatToIntBits_5c35a (l : Launch) (G : mG) (a0 : UInt32) {Q : Int32 → Prop} (hw : wn_Jxf58ca_floatToIntBits_5c35a a0 Q) (sz : Nat) :
    Met l yJxf58ca_floatToIntBits_5c35a wsJxf58ca_floatToIntBits_5c35a ({ frames := 1, cells := 0, slots := 0, locals := 30 } : Room) (va_Pc [.float a0] (mPre G (w0_Jxf58ca_floatToIntBits_5c35a G) sz)) (va_Qi (fun (r : Int32) (u : Unit) => Q r) (mBk G (va_A (w0_Jxf58ca_floatToIntBits_5c35a G) sz) (fun (u : Unit) => (w0_Jxf58ca_floatToIntBits_5c35a G))) (va_A (w0_Jxf58ca_floatToIntBits_5c35a G) sz)) 0 0 (va_A (w0_Jxf58ca_floatToIntBits_5c35a G) sz) := by
  refine mf_i (cc := cJxf58ca_floatToIntBits_5c35a) (maxL := 1) (ret := some .int) (post := (fun (r : Int32) (u : Unit) => Q r)) (w1 := (fun (u : Unit) => (w0_Jxf58ca_floatToIntBits_5c35a G))) (by decide +kernel) rfl (Nat.le_of_ble_eq_true rfl) ?_ sz
  intro p e s m below meth c A ls H locs hx hb hr hml hown hts hlocks hK hG hP hD hS hA hl
  have hown : s.vm.findClass RJxf58ca = some m.cls := hown
  have hl : lv_has ls 1 [(0, .float a0)] := hl
  unfold wn_Jxf58ca_floatToIntBits_5c35a at hw
  refine lv_fload_n hx hb dJxf58ca_floatToIntBits_5c35a_0 rfl (lv_at hl 0 rfl) ?_
  refine kcR_i (kr_S [] ⟨hx, hb, hml, hown, hts⟩ (cn_Jxf58ca_isNaN_12338 l G a0 hw H.size) (va_cwS 1 hts gJxf58ca_floatToIntBits_5c35a_Jxf58ca_isNaN_12338 rfl rfl rfl (by decide +kernel) ⟨Nat.le_of_ble_eq_true rfl, Nat.le_of_ble_eq_true rfl⟩) hK hG hP hD hS hA [] rfl rfl rfl hl.1 rfl (Nat.le_of_ble_eq_true rfl) dJxf58ca_floatToIntBits_5c35a_1 ⟨Nat.le_of_ble_eq_true rfl, Nat.le_of_ble_eq_true rfl⟩) hP hD hS hA [] rfl (fun r1 u H locs hw hP hS => ?_)
  try dsimp only at hw
  obtain ⟨hz_r1, hw⟩ := hw
  refine lv_if_ne (tgt := 12) hx hb dJxf58ca_floatToIntBits_5c35a_4 (by decide) (fun cd2 => ?_) (fun cd2 => ?_)
  · have hw := hw.1 cd2
    refine lv_ldc (v := 2143289344) hx hb hown (hts _ k_Jxf58ca_floatToIntBits_5c35a_c77) dJxf58ca_floatToIntBits_5c35a_12 ?_
    exact fin_i () hx hb hr hlocks hK hS hP hD hw dJxf58ca_floatToIntBits_5c35a_14
  · have hw := hw.2 cd2
    refine lv_fload_n hx hb dJxf58ca_floatToIntBits_5c35a_7 rfl (lv_at hl 0 rfl) ?_
    refine vn_f2i hx hb (by rw [hml]; exact hl.1.symm) hown (hts _ k_Jxf58ca_floatToIntBits_5c35a_m74) (hts _ k_Jxf58ca_floatToIntBits_5c35a_mnat) (hts _ k_Jxf58ca_floatToIntBits_5c35a_mst) (hts _ k_Jxf58ca_floatToIntBits_5c35a_min) (Nat.le_of_ble_eq_true rfl) (Nat.le_of_ble_eq_true rfl) dJxf58ca_floatToIntBits_5c35a_8 ?_
    exact fin_i () hx hb hr hlocks hK hS hP hD hw dJxf58ca_floatToIntBits_5c35a_11

abbrev w0_Jxe99ae_isNaN_b9ae7 (G : mG) : va_W := []
set_option maxHeartbeats 8000000 in
set_option maxRecDepth 100000 in
theorem cn_Jxe99ae_isNaN_b9ae7 (l : Launch) (G : mG) (a0 : UInt64) {Q : Int32 → Prop} (hw : wn_Jxe99ae_isNaN_b9ae7 a0 Q) (sz : Nat) :
    Met l yJxe99ae_isNaN_b9ae7 wsJxe99ae_isNaN_b9ae7 ({ frames := 0, cells := 0, slots := 0, locals := 0 } : Room) (va_Pc [.double a0] (mPre G (w0_Jxe99ae_isNaN_b9ae7 G) sz)) (va_Qi (fun (r : Int32) (u : Unit) => (r = 0 ∨ r = 1) ∧ Q r) (mBk G (va_A (w0_Jxe99ae_isNaN_b9ae7 G) sz) (fun (u : Unit) => (w0_Jxe99ae_isNaN_b9ae7 G))) (va_A (w0_Jxe99ae_isNaN_b9ae7 G) sz)) 0 0 (va_A (w0_Jxe99ae_isNaN_b9ae7 G) sz) := by
  refine mf_i (cc := cJxe99ae_isNaN_b9ae7) (maxL := 2) (ret := some .boolean) (post := (fun (r : Int32) (u : Unit) => (r = 0 ∨ r = 1) ∧ Q r)) (w1 := (fun (u : Unit) => (w0_Jxe99ae_isNaN_b9ae7 G))) (by decide +kernel) rfl (Nat.le_of_ble_eq_true rfl) ?_ sz
  intro p e s m below meth c A ls H locs hx hb hr hml hown hts hlocks hK hG hP hD hS hA hl
  have hown : s.vm.findClass RJxe99ae = some m.cls := hown
  have hl : lv_has ls 2 [(0, .double a0)] := hl
  unfold wn_Jxe99ae_isNaN_b9ae7 at hw
  refine lv_dload_n hx hb dJxe99ae_isNaN_b9ae7_0 rfl (lv_at hl 0 rfl) ?_
  refine lv_dload_n hx hb dJxe99ae_isNaN_b9ae7_1 rfl (lv_at hl 0 rfl) ?_
  refine lv_dcmp hx hb dJxe99ae_isNaN_b9ae7_2 ?_
  refine lv_if_eq (tgt := 10) hx hb dJxe99ae_isNaN_b9ae7_3 (by decide) (fun cd1 => ?_) (fun cd1 => ?_)
  · have hw := hw.1 cd1
    refine lv_iconst (v := 0) hx hb dJxe99ae_isNaN_b9ae7_10 (by decide) ?_
    exact fin_z () hx hb hr (nz (Or.inl rfl)) hlocks hK hS hP hD ⟨(Or.inl rfl), hw⟩ dJxe99ae_isNaN_b9ae7_11
  · have hw := hw.2 cd1
    refine lv_iconst (v := 1) hx hb dJxe99ae_isNaN_b9ae7_6 (by decide) ?_
    refine lv_goto (tgt := 11) hx hb dJxe99ae_isNaN_b9ae7_7 (by decide) ?_
    exact fin_z () hx hb hr (nz (Or.inr rfl)) hlocks hK hS hP hD ⟨(Or.inr rfl), hw⟩ dJxe99ae_isNaN_b9ae7_11

abbrev w0_Jxe99ae_doubleToLongBits_ccdee (G : mG) : va_W := []
set_option maxRecDepth 100000 in
theorem k_Jxe99ae_doubleToLongBits_ccdee_c137 : Cond.constantLong RJxe99ae 137 (9221120237041090560) ∈ wsJxe99ae_doubleToLongBits_ccdee := by decide +kernel
set_option maxRecDepth 100000 in
theorem k_Jxe99ae_doubleToLongBits_ccdee_m134 : Cond.methodLink RJxe99ae 134 (⟨"java/lang/Double", "doubleToRawLongBits", "(D)J"⟩ : MethodName) ∈ wsJxe99ae_doubleToLongBits_ccdee := by decide +kernel
set_option maxRecDepth 100000 in
theorem k_Jxe99ae_doubleToLongBits_ccdee_mnat : Cond.native (⟨"java/lang/Double", "doubleToRawLongBits", "(D)J"⟩ : MethodName) ∈ wsJxe99ae_doubleToLongBits_ccdee := by decide +kernel
set_option maxRecDepth 100000 in
theorem k_Jxe99ae_doubleToLongBits_ccdee_mst : Cond.static (⟨"java/lang/Double", "doubleToRawLongBits", "(D)J"⟩ : MethodName) ∈ wsJxe99ae_doubleToLongBits_ccdee := by decide +kernel
set_option maxRecDepth 100000 in
theorem k_Jxe99ae_doubleToLongBits_ccdee_min : Cond.initialized "java/lang/Double" ∈ wsJxe99ae_doubleToLongBits_ccdee := by decide +kernel
set_option maxHeartbeats 8000000 in
set_option maxRecDepth 100000 in
theorem cn_Jxe99ae_doubleToLongBits_ccdee (l : Launch) (G : mG) (a0 : UInt64) {Q : Int64 → Prop} (hw : wn_Jxe99ae_doubleToLongBits_ccdee a0 Q) (sz : Nat) :
    Met l yJxe99ae_doubleToLongBits_ccdee wsJxe99ae_doubleToLongBits_ccdee ({ frames := 1, cells := 0, slots := 0, locals := 30 } : Room) (va_Pc [.double a0] (mPre G (w0_Jxe99ae_doubleToLongBits_ccdee G) sz)) (va_Ql (fun (r : Int64) (u : Unit) => Q r) (mBk G (va_A (w0_Jxe99ae_doubleToLongBits_ccdee G) sz) (fun (u : Unit) => (w0_Jxe99ae_doubleToLongBits_ccdee G))) (va_A (w0_Jxe99ae_doubleToLongBits_ccdee G) sz)) 0 0 (va_A (w0_Jxe99ae_doubleToLongBits_ccdee G) sz) := by
  refine mf_l (cc := cJxe99ae_doubleToLongBits_ccdee) (maxL := 2) (ret := some .long) (post := (fun (r : Int64) (u : Unit) => Q r)) (w1 := (fun (u : Unit) => (w0_Jxe99ae_doubleToLongBits_ccdee G))) (by decide +kernel) rfl (Nat.le_of_ble_eq_true rfl) ?_ sz
  intro p e s m below meth c A ls H locs hx hb hr hml hown hts hlocks hK hG hP hD hS hA hl
  have hown : s.vm.findClass RJxe99ae = some m.cls := hown
  have hl : lv_has ls 2 [(0, .double a0)] := hl
  unfold wn_Jxe99ae_doubleToLongBits_ccdee at hw
  refine lv_dload_n hx hb dJxe99ae_doubleToLongBits_ccdee_0 rfl (lv_at hl 0 rfl) ?_
  refine kcR_i (kr_S [] ⟨hx, hb, hml, hown, hts⟩ (cn_Jxe99ae_isNaN_b9ae7 l G a0 hw H.size) (va_cwS 1 hts gJxe99ae_doubleToLongBits_ccdee_Jxe99ae_isNaN_b9ae7 rfl rfl rfl (by decide +kernel) ⟨Nat.le_of_ble_eq_true rfl, Nat.le_of_ble_eq_true rfl⟩) hK hG hP hD hS hA [] rfl rfl rfl hl.1 rfl (Nat.le_of_ble_eq_true rfl) dJxe99ae_doubleToLongBits_ccdee_1 ⟨Nat.le_of_ble_eq_true rfl, Nat.le_of_ble_eq_true rfl⟩) hP hD hS hA [] rfl (fun r1 u H locs hw hP hS => ?_)
  try dsimp only at hw
  obtain ⟨hz_r1, hw⟩ := hw
  refine lv_if_ne (tgt := 12) hx hb dJxe99ae_doubleToLongBits_ccdee_4 (by decide) (fun cd2 => ?_) (fun cd2 => ?_)
  · have hw := hw.1 cd2
    refine lv_ldc2 (v := 9221120237041090560) hx hb hown (hts _ k_Jxe99ae_doubleToLongBits_ccdee_c137) dJxe99ae_doubleToLongBits_ccdee_12 ?_
    exact fin_l () hx hb hr hlocks hK hS hP hD hw dJxe99ae_doubleToLongBits_ccdee_15
  · have hw := hw.2 cd2
    refine lv_dload_n hx hb dJxe99ae_doubleToLongBits_ccdee_7 rfl (lv_at hl 0 rfl) ?_
    refine vn_d2l hx hb (by rw [hml]; exact hl.1.symm) hown (hts _ k_Jxe99ae_doubleToLongBits_ccdee_m134) (hts _ k_Jxe99ae_doubleToLongBits_ccdee_mnat) (hts _ k_Jxe99ae_doubleToLongBits_ccdee_mst) (hts _ k_Jxe99ae_doubleToLongBits_ccdee_min) (Nat.le_of_ble_eq_true rfl) (Nat.le_of_ble_eq_true rfl) dJxe99ae_doubleToLongBits_ccdee_8 ?_
    exact fin_l () hx hb hr hlocks hK hS hP hD hw dJxe99ae_doubleToLongBits_ccdee_11

