set_option maxHeartbeats 16000000 in
set_option maxRecDepth 100000 in
/-- the law from behind its two objects -/
theorem law_walk {p : Program} {l : Launch} {e : Env} {s : State} {m : MethodId} {below : List Frame} {meth : Method} {c : Code} {G : mG} {A : Nat → Prop} {b L : Nat} {xs : Nat → Int32} (C : LCx p l s m meth c G A b L xs) (hAs : ∀ q, A q → s.heap.size ≤ q) (a a2 : Nat → Nat) (o v : OB) (hw : wb_law xs L o v) (k z : Nat) (H : Heap) (locs : List Loc) (ls : Array Slot) (hbk : k + 168225 ≤ 600000) (hbz : z + 6 * 168225 ≤ 6000000) (hP : va_P (gD G) vwCl (wOB G a o ++ wOB G a2 v) H) (hD : va_D A (wOB G a o ++ wOB G a2 v)) (hS : va_S A s.heap H locs) (hl : lv_has ls 8 [(0, .ref b), (1, .ref (a 0)), (2, .ref (a2 0))]) :
    W p l e room_1 s m #[Value.ref b] below meth c H locs k z (lw_Z below #[Value.ref b] s) (F0 m 16 ls []) := by
  obtain ⟨hx, hb, hml, hr, hown, hts, hlocks, hK, hG, hA, hX, hbl, hbA, hst⟩ := C
  have hown : s.vm.findClass RL = some m.cls := hown
  have J250 : ∀ (k z : Nat) (o : OB) (v : OB) (x3 : Int32) (x4 : Int32) (H : Heap) (locs : List Loc) (ls : Array Slot), k + (0) ≤ 600000 → z + 6 * (0) ≤ 6000000 → (x3 = 0 ∨ x3 = 1) → va_P (gD G) vwCl (wOB G a o ++ wOB G a2 v) H → va_D A (wOB G a o ++ wOB G a2 v) → va_S A s.heap H locs → lv_has ls 8 [(0, .ref b), (1, .ref (a 0)), (2, .ref (a2 0)), (3, .int x3), (4, .int x4)] → wj_b_L_law_250 xs L o v x3 x4 → W p l e room_1 s m #[Value.ref b] below meth c H locs k z (lw_Z below #[Value.ref b] s) (F0 m 250 ls []) := by
    intro k z o v x3 x4 H locs ls hbk hbz hz_x3 hP hD hS hl hw
    unfold wj_b_L_law_250 at hw
    refine lv_iload_n hx hb dL_law_250 rfl (lv_at hl 3 rfl) ?_
    refine lv_if_eq (tgt := 266) hx hb dL_law_251 (by decide) (fun cd6 => ?_) (fun cd6 => ?_)
    · have hw := hw.1 cd6
      refine lv_iconst (v := 0) hx hb dL_law_266 (by decide) ?_
      exact False.elim hw
    · have hw := hw.2 cd6
      refine lv_aload_n hx hb dL_law_254 rfl (lv_at hl 1 rfl) ?_
      refine lv_aload_n hx hb dL_law_255 rfl (lv_at hl 2 rfl) ?_
      refine kI_i (kr_S [] ⟨hx, hb, hml, hown, hts⟩ (cb_L_alike l hst G a a2 o v hw H.size) (va_cwS 2 hts gL_law_L_alike rfl rfl rfl (by decide +kernel) ⟨Nat.le_of_ble_eq_true rfl, Nat.le_of_ble_eq_true rfl⟩) hK hG hP hD hS hA (List.range 102) nd102 (rg102 G a a2 _ _) rfl hl.1 rfl (Nat.le_of_ble_eq_true rfl) dL_law_256 ⟨by show _ ≤ 600130; omega, by show _ ≤ 7301080; omega⟩) hP hD hS hA (fun r7 u H locs hw hP hD hS => ?_)
      obtain ⟨o8, v9⟩ := u
      try dsimp only at hw hP hD
      obtain ⟨hz_r7, hw⟩ := hw
      refine lv_if_eq (tgt := 266) hx hb dL_law_259 (by decide) (fun cd10 => ?_) (fun cd10 => ?_)
      · have hw := hw.1 cd10
        refine lv_iconst (v := 0) hx hb dL_law_266 (by decide) ?_
        exact False.elim hw
      · have hw := hw.2 cd10
        refine lv_iconst (v := 1) hx hb dL_law_262 (by decide) ?_
        refine lv_goto (tgt := 267) hx hb dL_law_263 (by decide) ?_
        refine va_forget (fun q hq => hAs _ (hS.2.2 q hq)) ?_
        refine W.widen (k := 600130) (n := 7301080) (by omega) (by omega) ?_
        refine W.base ?_
        exact lw_ret (Drawn.sameBut.refl s.drawn lw_cs) hx hb hr hlocks dL_law_267
  have J238 : ∀ (k47 : OB → OB → Int32 → Int32 → Prop) (nn47 : Nat) (hk47 : ∀ (k z : Nat) (o : OB) (v : OB) (x3 : Int32) (x4 : Int32) (H : Heap) (locs : List Loc) (ls : Array Slot), k + nn47 ≤ 600000 → z + 6 * nn47 ≤ 6000000 → (x3 = 0 ∨ x3 = 1) → va_P (gD G) vwCl (wOB G a o ++ wOB G a2 v) H → va_D A (wOB G a o ++ wOB G a2 v) → va_S A s.heap H locs → lv_has ls 8 [(0, .ref b), (1, .ref (a 0)), (2, .ref (a2 0)), (3, .int x3), (4, .int x4)] → k47 o v x3 x4 → W p l e room_1 s m #[Value.ref b] below meth c H locs k z (lw_Z below #[Value.ref b] s) (F0 m 47 ls [])) (k z : Nat) (o : OB) (v : OB) (x3 : Int32) (x4 : Int32) (x5 : Int32) (x6 : Int32) (H : Heap) (locs : List Loc) (ls : Array Slot), k + (0 + nn47) ≤ 600000 → z + 6 * (0 + nn47) ≤ 6000000 → (x3 = 0 ∨ x3 = 1) → va_P (gD G) vwCl (wOB G a o ++ wOB G a2 v) H → va_D A (wOB G a o ++ wOB G a2 v) → va_S A s.heap H locs → lv_has ls 8 [(0, .ref b), (1, .ref (a 0)), (2, .ref (a2 0)), (3, .int x3), (4, .int x4), (5, .int x5), (6, .int x6)] → wj_b_L_law_238 xs L k47 o v x3 x4 x5 x6 → W p l e room_1 s m #[Value.ref b] below meth c H locs k z (lw_Z below #[Value.ref b] s) (F0 m 238 ls []) := by
    intro k47 nn47 hk47 k z o v x3 x4 x5 x6 H locs ls hbk hbz hz_x3 hP hD hS hl hw
    unfold wj_b_L_law_238 at hw
    refine lv_iconst (v := 1) hx hb dL_law_238 (by decide) ?_
    refine lv_goto (tgt := 243) hx hb dL_law_239 (by decide) ?_
    refine lv_istore_n (lv' := [(3, .int (1 : Int32)), (0, .ref b), (1, .ref (a 0)), (2, .ref (a2 0)), (4, .int x4), (5, .int x5), (6, .int x6)]) hx hb dL_law_243 rfl hl (by decide) rfl (fun ls hl => ?_)
    refine lv_iinc (v := (x4 + 1)) (lv' := [(4, .int (x4 + 1)), (3, .int (1 : Int32)), (0, .ref b), (1, .ref (a 0)), (2, .ref (a2 0)), (5, .int x5), (6, .int x6)]) hx hb dL_law_244 hl (k := 4) rfl rfl (by decide) rfl (fun ls hl => ?_)
    refine lv_goto (tgt := 47) hx hb dL_law_247 (by decide) ?_
    exact hk47 _ _ o v (1 : Int32) (x4 + 1) _ _ _ (by omega) (by omega) (Or.inr rfl) hP hD hS (lv_sub hl [2, 3, 4, 1, 0] rfl) hw
  have J218 : ∀ (k47 : OB → OB → Int32 → Int32 → Prop) (nn47 : Nat) (hk47 : ∀ (k z : Nat) (o : OB) (v : OB) (x3 : Int32) (x4 : Int32) (H : Heap) (locs : List Loc) (ls : Array Slot), k + nn47 ≤ 600000 → z + 6 * nn47 ≤ 6000000 → (x3 = 0 ∨ x3 = 1) → va_P (gD G) vwCl (wOB G a o ++ wOB G a2 v) H → va_D A (wOB G a o ++ wOB G a2 v) → va_S A s.heap H locs → lv_has ls 8 [(0, .ref b), (1, .ref (a 0)), (2, .ref (a2 0)), (3, .int x3), (4, .int x4)] → k47 o v x3 x4 → W p l e room_1 s m #[Value.ref b] below meth c H locs k z (lw_Z below #[Value.ref b] s) (F0 m 47 ls [])) (k z : Nat) (o : OB) (v : OB) (x3 : Int32) (x4 : Int32) (x5 : Int32) (x6 : Int32) (H : Heap) (locs : List Loc) (ls : Array Slot), k + (0 + nn47) ≤ 600000 → z + 6 * (0 + nn47) ≤ 6000000 → (x3 = 0 ∨ x3 = 1) → va_P (gD G) vwCl (wOB G a o ++ wOB G a2 v) H → va_D A (wOB G a o ++ wOB G a2 v) → va_S A s.heap H locs → lv_has ls 8 [(0, .ref b), (1, .ref (a 0)), (2, .ref (a2 0)), (3, .int x3), (4, .int x4), (5, .int x5), (6, .int x6)] → wj_b_L_law_218 xs L k47 o v x3 x4 x5 x6 → W p l e room_1 s m #[Value.ref b] below meth c H locs k z (lw_Z below #[Value.ref b] s) (F0 m 218 ls []) := by
    intro k47 nn47 hk47 k z o v x3 x4 x5 x6 H locs ls hbk hbz hz_x3 hP hD hS hl hw
    unfold wj_b_L_law_218 at hw
    refine lv_iload_n hx hb dL_law_218 rfl (lv_at hl 3 rfl) ?_
    refine lv_if_eq (tgt := 242) hx hb dL_law_219 (by decide) (fun cd25 => ?_) (fun cd25 => ?_)
    · have hw := hw.1 cd25
      refine lv_iconst (v := 0) hx hb dL_law_242 (by decide) ?_
      refine lv_istore_n (lv' := [(3, .int (0 : Int32)), (0, .ref b), (1, .ref (a 0)), (2, .ref (a2 0)), (4, .int x4), (5, .int x5), (6, .int x6)]) hx hb dL_law_243 rfl hl (by decide) rfl (fun ls hl => ?_)
      refine lv_iinc (v := (x4 + 1)) (lv' := [(4, .int (x4 + 1)), (3, .int (0 : Int32)), (0, .ref b), (1, .ref (a 0)), (2, .ref (a2 0)), (5, .int x5), (6, .int x6)]) hx hb dL_law_244 hl (k := 4) rfl rfl (by decide) rfl (fun ls hl => ?_)
      refine lv_goto (tgt := 47) hx hb dL_law_247 (by decide) ?_
      exact hk47 _ _ o v (0 : Int32) (x4 + 1) _ _ _ (by omega) (by omega) (Or.inl rfl) hP hD hS (lv_sub hl [2, 3, 4, 1, 0] rfl) hw
    · have hw := hw.2 cd25
      refine lv_iload hx hb dL_law_222 (lv_at hl 4 rfl) ?_
      refine lv_bipush (v := 10) hx hb dL_law_224 (by decide) ?_
      refine lv_irem hx hb dL_law_226 (by decide) ?_
      refine lv_if_gt (tgt := 238) hx hb dL_law_227 (by decide) (fun cd26 => ?_) (fun cd26 => ?_)
      · have hw := hw.1 cd26
        exact J238 k47 nn47 hk47 _ _ o v x3 x4 x5 x6 _ _ _ (by omega) (by omega) hz_x3 hP hD hS hl hw
      · have hw := hw.2 cd26
        refine lv_aload_n hx hb dL_law_230 rfl (lv_at hl 1 rfl) ?_
        refine lv_aload_n hx hb dL_law_231 rfl (lv_at hl 2 rfl) ?_
        refine kI_i (kr_S [] ⟨hx, hb, hml, hown, hts⟩ (cb_L_alike l hst G a a2 o v hw H.size) (va_cwS 2 hts gL_law_L_alike rfl rfl rfl (by decide +kernel) ⟨Nat.le_of_ble_eq_true rfl, Nat.le_of_ble_eq_true rfl⟩) hK hG hP hD hS hA (List.range 102) nd102 (rg102 G a a2 _ _) rfl hl.1 rfl (Nat.le_of_ble_eq_true rfl) dL_law_232 ⟨by show _ ≤ 600130; omega, by show _ ≤ 7301080; omega⟩) hP hD hS hA (fun r27 u H locs hw hP hD hS => ?_)
        obtain ⟨o28, v29⟩ := u
        try dsimp only at hw hP hD
        obtain ⟨hz_r27, hw⟩ := hw
        refine lv_if_eq (tgt := 242) hx hb dL_law_235 (by decide) (fun cd30 => ?_) (fun cd30 => ?_)
        · have hw := hw.1 cd30
          refine lv_iconst (v := 0) hx hb dL_law_242 (by decide) ?_
          refine lv_istore_n (lv' := [(3, .int (0 : Int32)), (0, .ref b), (1, .ref (a 0)), (2, .ref (a2 0)), (4, .int x4), (5, .int x5), (6, .int x6)]) hx hb dL_law_243 rfl hl (by decide) rfl (fun ls hl => ?_)
          refine lv_iinc (v := (x4 + 1)) (lv' := [(4, .int (x4 + 1)), (3, .int (0 : Int32)), (0, .ref b), (1, .ref (a 0)), (2, .ref (a2 0)), (5, .int x5), (6, .int x6)]) hx hb dL_law_244 hl (k := 4) rfl rfl (by decide) rfl (fun ls hl => ?_)
          refine lv_goto (tgt := 47) hx hb dL_law_247 (by decide) ?_
          exact hk47 _ _ o28 v29 (0 : Int32) (x4 + 1) _ _ _ (by omega) (by omega) (Or.inl rfl) hP hD hS (lv_sub hl [2, 3, 4, 1, 0] rfl) hw
        · have hw := hw.2 cd30
          exact J238 k47 nn47 hk47 _ _ o28 v29 x3 x4 x5 x6 _ _ _ (by omega) (by omega) hz_x3 hP hD hS hl hw
  have J181 : ∀ (k47 : OB → OB → Int32 → Int32 → Prop) (nn47 : Nat) (hk47 : ∀ (k z : Nat) (o : OB) (v : OB) (x3 : Int32) (x4 : Int32) (H : Heap) (locs : List Loc) (ls : Array Slot), k + nn47 ≤ 600000 → z + 6 * nn47 ≤ 6000000 → (x3 = 0 ∨ x3 = 1) → va_P (gD G) vwCl (wOB G a o ++ wOB G a2 v) H → va_D A (wOB G a o ++ wOB G a2 v) → va_S A s.heap H locs → lv_has ls 8 [(0, .ref b), (1, .ref (a 0)), (2, .ref (a2 0)), (3, .int x3), (4, .int x4)] → k47 o v x3 x4 → W p l e room_1 s m #[Value.ref b] below meth c H locs k z (lw_Z below #[Value.ref b] s) (F0 m 47 ls [])) (n : Nat) (k z : Nat) (o : OB) (v : OB) (x3 : Int32) (x4 : Int32) (x5 : Int32) (x6 : Int32) (x7 : Int32) (H : Heap) (locs : List Loc) (ls : Array Slot), k + (n * 4 + 0 + nn47) ≤ 600000 → z + 6 * (n * 4 + 0 + nn47) ≤ 6000000 → (x3 = 0 ∨ x3 = 1) → va_P (gD G) vwCl (wOB G a o ++ wOB G a2 v) H → va_D A (wOB G a o ++ wOB G a2 v) → va_S A s.heap H locs → lv_has ls 8 [(0, .ref b), (1, .ref (a 0)), (2, .ref (a2 0)), (3, .int x3), (4, .int x4), (5, .int x5), (6, .int x6), (7, .int x7)] → wl_b_L_law_181 xs L k47 n o v x3 x4 x5 x6 x7 → W p l e room_1 s m #[Value.ref b] below meth c H locs k z (lw_Z below #[Value.ref b] s) (F0 m 181 ls []) := by
    intro k47 nn47 hk47 n
    induction n with
    | zero => intro k z o v x3 x4 x5 x6 x7 H locs ls hbk hbz hz_x3 hP hD hS hl hw; exact False.elim hw
    | succ n ih =>
      intro k z o v x3 x4 x5 x6 x7 H locs ls hbk hbz hz_x3 hP hD hS hl hw
      rw [wl_b_L_law_181] at hw
      refine lv_iload hx hb dL_law_181 (lv_at hl 7 rfl) ?_
      refine lv_bipush (v := 6) hx hb dL_law_183 (by decide) ?_
      refine lv_icmp_ge (tgt := 218) hx hb dL_law_185 (by decide) (fun cd32 => ?_) (fun cd32 => ?_)
      · have hw := hw.1 cd32
        exact J218 k47 nn47 hk47 _ _ o v x3 x4 x5 x6 _ _ _ (by omega) (by omega) hz_x3 hP hD hS (lv_sub hl [0, 1, 2, 3, 4, 5, 6] rfl) hw
      · have hw := hw.2 cd32
        refine lv_iload_n hx hb dL_law_188 rfl (lv_at hl 3 rfl) ?_
        refine lv_if_eq (tgt := 218) hx hb dL_law_189 (by decide) (fun cd33 => ?_) (fun cd33 => ?_)
        · have hw := hw.1 cd33
          exact J218 k47 nn47 hk47 _ _ o v x3 x4 x5 x6 _ _ _ (by omega) (by omega) hz_x3 hP hD hS (lv_sub hl [0, 1, 2, 3, 4, 5, 6] rfl) hw
        · have hw := hw.2 cd33
          refine lv_aload_n hx hb dL_law_192 rfl (lv_at hl 1 rfl) ?_
          refine lv_iconst (v := 1) hx hb dL_law_193 (by decide) ?_
          refine kL_l (kr_SW [] ⟨hx, hb, hml, hown, hts⟩ (cb_L_goBack l hst G a o (1 : Int32) hw H.size) (vx_cwSW 2 hts gL_law_L_goBack rfl rfl rfl (by decide +kernel) ⟨Nat.le_of_ble_eq_true rfl, Nat.le_of_ble_eq_true rfl⟩) hK hG hP hD hS hA (List.range 51) nd51 (rgL G a a2 _ _) rfl hl.1 rfl (Nat.le_of_ble_eq_true rfl) dL_law_194 ⟨by show _ ≤ 600130; omega, by show _ ≤ 7301080; omega⟩) hP hD hS hA (fun r34 o35 H locs hw hP hD hS => ?_)
          refine lv_aload_n hx hb dL_law_197 rfl (lv_at hl 2 rfl) ?_
          refine lv_iconst (v := 1) hx hb dL_law_198 (by decide) ?_
          refine kR_l (kr_SW [.long r34] ⟨hx, hb, hml, hown, hts⟩ (cb_L_goBack l hst G a2 v (1 : Int32) hw H.size) (vx_cwSW 2 hts gL_law_L_goBack rfl rfl rfl (by decide +kernel) ⟨Nat.le_of_ble_eq_true rfl, Nat.le_of_ble_eq_true rfl⟩) hK hG hP hD hS hA ((List.range 51).map (fun i => 51 + i)) nd51R (rgR G a a2 _ _) rfl hl.1 rfl (Nat.le_of_ble_eq_true rfl) dL_law_199 ⟨by show _ ≤ 600130; omega, by show _ ≤ 7301080; omega⟩) hP hD hS hA (fun r36 o37 H locs hw hP hD hS => ?_)
          refine W.lcmp hx hb dL_law_202 ?_
          refine lv_if_ne (tgt := 210) hx hb dL_law_203 (by decide) (fun cd38 => ?_) (fun cd38 => ?_)
          · have hw := hw.1 cd38
            refine lv_iconst (v := 0) hx hb dL_law_210 (by decide) ?_
            refine lv_istore_n (lv' := [(3, .int (0 : Int32)), (0, .ref b), (1, .ref (a 0)), (2, .ref (a2 0)), (4, .int x4), (5, .int x5), (6, .int x6), (7, .int x7)]) hx hb dL_law_211 rfl hl (by decide) rfl (fun ls hl => ?_)
            refine lv_iinc (v := (x7 + 1)) (lv' := [(7, .int (x7 + 1)), (3, .int (0 : Int32)), (0, .ref b), (1, .ref (a 0)), (2, .ref (a2 0)), (4, .int x4), (5, .int x5), (6, .int x6)]) hx hb dL_law_212 hl (k := 7) rfl rfl (by decide) rfl (fun ls hl => ?_)
            refine lv_goto (tgt := 181) hx hb dL_law_215 (by decide) ?_
            exact ih _ _ o35 o37 (0 : Int32) x4 x5 x6 (x7 + 1) _ _ _ (by omega) (by omega) (Or.inl rfl) hP hD hS (lv_sub hl [2, 3, 4, 1, 5, 6, 7, 0] rfl) hw
          · have hw := hw.2 cd38
            refine lv_iconst (v := 1) hx hb dL_law_206 (by decide) ?_
            refine lv_goto (tgt := 211) hx hb dL_law_207 (by decide) ?_
            refine lv_istore_n (lv' := [(3, .int (1 : Int32)), (0, .ref b), (1, .ref (a 0)), (2, .ref (a2 0)), (4, .int x4), (5, .int x5), (6, .int x6), (7, .int x7)]) hx hb dL_law_211 rfl hl (by decide) rfl (fun ls hl => ?_)
            refine lv_iinc (v := (x7 + 1)) (lv' := [(7, .int (x7 + 1)), (3, .int (1 : Int32)), (0, .ref b), (1, .ref (a 0)), (2, .ref (a2 0)), (4, .int x4), (5, .int x5), (6, .int x6)]) hx hb dL_law_212 hl (k := 7) rfl rfl (by decide) rfl (fun ls hl => ?_)
            refine lv_goto (tgt := 181) hx hb dL_law_215 (by decide) ?_
            exact ih _ _ o35 o37 (1 : Int32) x4 x5 x6 (x7 + 1) _ _ _ (by omega) (by omega) (Or.inr rfl) hP hD hS (lv_sub hl [2, 3, 4, 1, 5, 6, 7, 0] rfl) hw
  have J139 : ∀ (k47 : OB → OB → Int32 → Int32 → Prop) (nn47 : Nat) (hk47 : ∀ (k z : Nat) (o : OB) (v : OB) (x3 : Int32) (x4 : Int32) (H : Heap) (locs : List Loc) (ls : Array Slot), k + nn47 ≤ 600000 → z + 6 * nn47 ≤ 6000000 → (x3 = 0 ∨ x3 = 1) → va_P (gD G) vwCl (wOB G a o ++ wOB G a2 v) H → va_D A (wOB G a o ++ wOB G a2 v) → va_S A s.heap H locs → lv_has ls 8 [(0, .ref b), (1, .ref (a 0)), (2, .ref (a2 0)), (3, .int x3), (4, .int x4)] → k47 o v x3 x4 → W p l e room_1 s m #[Value.ref b] below meth c H locs k z (lw_Z below #[Value.ref b] s) (F0 m 47 ls [])) (k z : Nat) (o : OB) (v : OB) (x3 : Int32) (x4 : Int32) (x5 : Int32) (x6 : Int32) (H : Heap) (locs : List Loc) (ls : Array Slot), k + (313 + nn47) ≤ 600000 → z + 6 * (313 + nn47) ≤ 6000000 → (x3 = 0 ∨ x3 = 1) → va_P (gD G) vwCl (wOB G a o ++ wOB G a2 v) H → va_D A (wOB G a o ++ wOB G a2 v) → va_S A s.heap H locs → lv_has ls 8 [(0, .ref b), (1, .ref (a 0)), (2, .ref (a2 0)), (3, .int x3), (4, .int x4), (5, .int x5), (6, .int x6)] → wj_b_L_law_139 xs L k47 o v x3 x4 x5 x6 → W p l e room_1 s m #[Value.ref b] below meth c H locs k z (lw_Z below #[Value.ref b] s) (F0 m 139 ls []) := by
    intro k47 nn47 hk47 k z o v x3 x4 x5 x6 H locs ls hbk hbz hz_x3 hP hD hS hl hw
    unfold wj_b_L_law_139 at hw
    refine lv_iload hx hb dL_law_139 (lv_at hl 4 rfl) ?_
    refine lv_bipush (v := 13) hx hb dL_law_141 (by decide) ?_
    refine lv_irem hx hb dL_law_143 (by decide) ?_
    refine lv_bipush (v := 12) hx hb dL_law_144 (by decide) ?_
    refine lv_icmp_ne (tgt := 218) hx hb dL_law_146 (by decide) (fun cd24 => ?_) (fun cd24 => ?_)
    · have hw := hw.1 cd24
      exact J218 k47 nn47 hk47 _ _ o v x3 x4 x5 x6 _ _ _ (by omega) (by omega) hz_x3 hP hD hS hl hw
    · have hw := hw.2 cd24
      refine lv_iload_n hx hb dL_law_149 rfl (lv_at hl 3 rfl) ?_
      refine lv_if_eq (tgt := 176) hx hb dL_law_150 (by decide) (fun cd31 => ?_) (fun cd31 => ?_)
      · have hw := hw.1 cd31
        refine lv_iconst (v := 0) hx hb dL_law_176 (by decide) ?_
        refine lv_istore_n (lv' := [(3, .int (0 : Int32)), (0, .ref b), (1, .ref (a 0)), (2, .ref (a2 0)), (4, .int x4), (5, .int x5), (6, .int x6)]) hx hb dL_law_177 rfl hl (by decide) rfl (fun ls hl => ?_)
        refine lv_iconst (v := 0) hx hb dL_law_178 (by decide) ?_
        refine lv_istore (lv' := [(7, .int (0 : Int32)), (3, .int (0 : Int32)), (0, .ref b), (1, .ref (a 0)), (2, .ref (a2 0)), (4, .int x4), (5, .int x5), (6, .int x6)]) hx hb dL_law_179 hl (by decide) rfl (fun ls hl => ?_)
        exact J181 k47 nn47 hk47 7 _ _ o v (0 : Int32) x4 x5 x6 (0 : Int32) _ _ _ (by omega) (by omega) (Or.inl rfl) hP hD hS (lv_sub hl [2, 3, 4, 1, 5, 6, 7, 0] rfl) hw
      · have hw := hw.2 cd31
        refine lv_aload_n hx hb dL_law_153 rfl (lv_at hl 2 rfl) ?_
        refine lv_iload hx hb dL_law_154 (lv_at hl 6 rfl) ?_
        refine kR_i (kr_S [] ⟨hx, hb, hml, hown, hts⟩ (cb_L_follows l hst G a2 v x6 hw H.size) (va_cwS 2 hts gL_law_L_follows rfl rfl rfl (by decide +kernel) ⟨Nat.le_of_ble_eq_true rfl, Nat.le_of_ble_eq_true rfl⟩) hK hG hP hD hS hA ((List.range 51).map (fun i => 51 + i)) nd51R (rgR G a a2 _ _) rfl hl.1 rfl (Nat.le_of_ble_eq_true rfl) dL_law_156 ⟨by show _ ≤ 600130; omega, by show _ ≤ 7301080; omega⟩) hP hD hS hA (fun r39 o40 H locs hw hP hD hS => ?_)
        obtain ⟨hz_r39, hw⟩ := hw
        refine lv_if_eq (tgt := 176) hx hb dL_law_159 (by decide) (fun cd41 => ?_) (fun cd41 => ?_)
        · have hw := hw.1 cd41
          refine lv_iconst (v := 0) hx hb dL_law_176 (by decide) ?_
          refine lv_istore_n (lv' := [(3, .int (0 : Int32)), (0, .ref b), (1, .ref (a 0)), (2, .ref (a2 0)), (4, .int x4), (5, .int x5), (6, .int x6)]) hx hb dL_law_177 rfl hl (by decide) rfl (fun ls hl => ?_)
          refine lv_iconst (v := 0) hx hb dL_law_178 (by decide) ?_
          refine lv_istore (lv' := [(7, .int (0 : Int32)), (3, .int (0 : Int32)), (0, .ref b), (1, .ref (a 0)), (2, .ref (a2 0)), (4, .int x4), (5, .int x5), (6, .int x6)]) hx hb dL_law_179 hl (by decide) rfl (fun ls hl => ?_)
          exact J181 k47 nn47 hk47 7 _ _ o o40 (0 : Int32) x4 x5 x6 (0 : Int32) _ _ _ (by omega) (by omega) (Or.inl rfl) hP hD hS (lv_sub hl [2, 3, 4, 1, 5, 6, 7, 0] rfl) hw
        · have hw := hw.2 cd41
          refine lv_aload_n hx hb dL_law_162 rfl (lv_at hl 1 rfl) ?_
          refine lv_iconst (v := 1) hx hb dL_law_163 (by decide) ?_
          refine kL_l (kr_SW [] ⟨hx, hb, hml, hown, hts⟩ (cb_L_keep l hst G a o (1 : Int32) hw H.size) (vx_cwSW 2 hts gL_law_L_keep rfl rfl rfl (by decide +kernel) ⟨Nat.le_of_ble_eq_true rfl, Nat.le_of_ble_eq_true rfl⟩) hK hG hP hD hS hA (List.range 51) nd51 (rgL G a a2 _ _) rfl hl.1 rfl (Nat.le_of_ble_eq_true rfl) dL_law_164 ⟨by show _ ≤ 600130; omega, by show _ ≤ 7301080; omega⟩) hP hD hS hA (fun r42 o43 H locs hw hP hD hS => ?_)
          refine lv_lconst (v := 0) hx hb dL_law_167 (by decide) ?_
          refine W.lcmp hx hb dL_law_168 ?_
          refine lv_if_ne (tgt := 176) hx hb dL_law_169 (by decide) (fun cd44 => ?_) (fun cd44 => ?_)
          · have hw := hw.1 cd44
            refine lv_iconst (v := 0) hx hb dL_law_176 (by decide) ?_
            refine lv_istore_n (lv' := [(3, .int (0 : Int32)), (0, .ref b), (1, .ref (a 0)), (2, .ref (a2 0)), (4, .int x4), (5, .int x5), (6, .int x6)]) hx hb dL_law_177 rfl hl (by decide) rfl (fun ls hl => ?_)
            refine lv_iconst (v := 0) hx hb dL_law_178 (by decide) ?_
            refine lv_istore (lv' := [(7, .int (0 : Int32)), (3, .int (0 : Int32)), (0, .ref b), (1, .ref (a 0)), (2, .ref (a2 0)), (4, .int x4), (5, .int x5), (6, .int x6)]) hx hb dL_law_179 hl (by decide) rfl (fun ls hl => ?_)
            exact J181 k47 nn47 hk47 7 _ _ o43 o40 (0 : Int32) x4 x5 x6 (0 : Int32) _ _ _ (by omega) (by omega) (Or.inl rfl) hP hD hS (lv_sub hl [2, 3, 4, 1, 5, 6, 7, 0] rfl) hw
          · have hw := hw.2 cd44
            refine lv_iconst (v := 1) hx hb dL_law_172 (by decide) ?_
            refine lv_goto (tgt := 177) hx hb dL_law_173 (by decide) ?_
            refine lv_istore_n (lv' := [(3, .int (1 : Int32)), (0, .ref b), (1, .ref (a 0)), (2, .ref (a2 0)), (4, .int x4), (5, .int x5), (6, .int x6)]) hx hb dL_law_177 rfl hl (by decide) rfl (fun ls hl => ?_)
            refine lv_iconst (v := 0) hx hb dL_law_178 (by decide) ?_
            refine lv_istore (lv' := [(7, .int (0 : Int32)), (3, .int (1 : Int32)), (0, .ref b), (1, .ref (a 0)), (2, .ref (a2 0)), (4, .int x4), (5, .int x5), (6, .int x6)]) hx hb dL_law_179 hl (by decide) rfl (fun ls hl => ?_)
            exact J181 k47 nn47 hk47 7 _ _ o43 o40 (1 : Int32) x4 x5 x6 (0 : Int32) _ _ _ (by omega) (by omega) (Or.inr rfl) hP hD hS (lv_sub hl [2, 3, 4, 1, 5, 6, 7, 0] rfl) hw
  have J138 : ∀ (k47 : OB → OB → Int32 → Int32 → Prop) (nn47 : Nat) (hk47 : ∀ (k z : Nat) (o : OB) (v : OB) (x3 : Int32) (x4 : Int32) (H : Heap) (locs : List Loc) (ls : Array Slot), k + nn47 ≤ 600000 → z + 6 * nn47 ≤ 6000000 → (x3 = 0 ∨ x3 = 1) → va_P (gD G) vwCl (wOB G a o ++ wOB G a2 v) H → va_D A (wOB G a o ++ wOB G a2 v) → va_S A s.heap H locs → lv_has ls 8 [(0, .ref b), (1, .ref (a 0)), (2, .ref (a2 0)), (3, .int x3), (4, .int x4)] → k47 o v x3 x4 → W p l e room_1 s m #[Value.ref b] below meth c H locs k z (lw_Z below #[Value.ref b] s) (F0 m 47 ls [])) (k z : Nat) (o : OB) (v : OB) (x3 : Int32) (x4 : Int32) (x5 : Int32) (x6 : Int32) (y0 : Int32) (H : Heap) (locs : List Loc) (ls : Array Slot), k + (313 + nn47) ≤ 600000 → z + 6 * (313 + nn47) ≤ 6000000 → (x3 = 0 ∨ x3 = 1) → (y0 = 0 ∨ y0 = 1) → va_P (gD G) vwCl (wOB G a o ++ wOB G a2 v) H → va_D A (wOB G a o ++ wOB G a2 v) → va_S A s.heap H locs → lv_has ls 8 [(0, .ref b), (1, .ref (a 0)), (2, .ref (a2 0)), (3, .int x3), (4, .int x4), (5, .int x5), (6, .int x6)] → wj_b_L_law_138 xs L k47 o v x3 x4 x5 x6 y0 → W p l e room_1 s m #[Value.ref b] below meth c H locs k z (lw_Z below #[Value.ref b] s) (F0 m 138 ls [.int y0]) := by
    intro k47 nn47 hk47 k z o v x3 x4 x5 x6 y0 H locs ls hbk hbz hz_x3 hz_y0 hP hD hS hl hw
    unfold wj_b_L_law_138 at hw
    refine lv_istore_n (lv' := [(3, .int y0), (0, .ref b), (1, .ref (a 0)), (2, .ref (a2 0)), (4, .int x4), (5, .int x5), (6, .int x6)]) hx hb dL_law_138 rfl hl (by decide) rfl (fun ls hl => ?_)
    exact J139 k47 nn47 hk47 _ _ o v y0 x4 x5 x6 _ _ _ (by omega) (by omega) hz_y0 hP hD hS (lv_sub hl [1, 2, 3, 0, 4, 5, 6] rfl) hw
  have J137 : ∀ (k47 : OB → OB → Int32 → Int32 → Prop) (nn47 : Nat) (hk47 : ∀ (k z : Nat) (o : OB) (v : OB) (x3 : Int32) (x4 : Int32) (H : Heap) (locs : List Loc) (ls : Array Slot), k + nn47 ≤ 600000 → z + 6 * nn47 ≤ 6000000 → (x3 = 0 ∨ x3 = 1) → va_P (gD G) vwCl (wOB G a o ++ wOB G a2 v) H → va_D A (wOB G a o ++ wOB G a2 v) → va_S A s.heap H locs → lv_has ls 8 [(0, .ref b), (1, .ref (a 0)), (2, .ref (a2 0)), (3, .int x3), (4, .int x4)] → k47 o v x3 x4 → W p l e room_1 s m #[Value.ref b] below meth c H locs k z (lw_Z below #[Value.ref b] s) (F0 m 47 ls [])) (k z : Nat) (o : OB) (v : OB) (x3 : Int32) (x4 : Int32) (x5 : Int32) (x6 : Int32) (H : Heap) (locs : List Loc) (ls : Array Slot), k + (313 + nn47) ≤ 600000 → z + 6 * (313 + nn47) ≤ 6000000 → (x3 = 0 ∨ x3 = 1) → va_P (gD G) vwCl (wOB G a o ++ wOB G a2 v) H → va_D A (wOB G a o ++ wOB G a2 v) → va_S A s.heap H locs → lv_has ls 8 [(0, .ref b), (1, .ref (a 0)), (2, .ref (a2 0)), (3, .int x3), (4, .int x4), (5, .int x5), (6, .int x6)] → wj_b_L_law_137 xs L k47 o v x3 x4 x5 x6 → W p l e room_1 s m #[Value.ref b] below meth c H locs k z (lw_Z below #[Value.ref b] s) (F0 m 137 ls []) := by
    intro k47 nn47 hk47 k z o v x3 x4 x5 x6 H locs ls hbk hbz hz_x3 hP hD hS hl hw
    unfold wj_b_L_law_137 at hw
    refine lv_iconst (v := 0) hx hb dL_law_137 (by decide) ?_
    exact J138 k47 nn47 hk47 _ _ o v x3 x4 x5 x6 (0 : Int32) _ _ _ (by omega) (by omega) hz_x3 (Or.inl rfl) hP hD hS hl hw
  have J105 : ∀ (k47 : OB → OB → Int32 → Int32 → Prop) (nn47 : Nat) (hk47 : ∀ (k z : Nat) (o : OB) (v : OB) (x3 : Int32) (x4 : Int32) (H : Heap) (locs : List Loc) (ls : Array Slot), k + nn47 ≤ 600000 → z + 6 * nn47 ≤ 6000000 → (x3 = 0 ∨ x3 = 1) → va_P (gD G) vwCl (wOB G a o ++ wOB G a2 v) H → va_D A (wOB G a o ++ wOB G a2 v) → va_S A s.heap H locs → lv_has ls 8 [(0, .ref b), (1, .ref (a 0)), (2, .ref (a2 0)), (3, .int x3), (4, .int x4)] → k47 o v x3 x4 → W p l e room_1 s m #[Value.ref b] below meth c H locs k z (lw_Z below #[Value.ref b] s) (F0 m 47 ls [])) (k z : Nat) (o : OB) (v : OB) (x3 : Int32) (x4 : Int32) (x5 : Int32) (x6 : Int32) (y0 : Int32) (H : Heap) (locs : List Loc) (ls : Array Slot), k + (3923 + nn47) ≤ 600000 → z + 6 * (3923 + nn47) ≤ 6000000 → (x3 = 0 ∨ x3 = 1) → (y0 = 0 ∨ y0 = 1) → va_P (gD G) vwCl (wOB G a o ++ wOB G a2 v) H → va_D A (wOB G a o ++ wOB G a2 v) → va_S A s.heap H locs → lv_has ls 8 [(0, .ref b), (1, .ref (a 0)), (2, .ref (a2 0)), (3, .int x3), (4, .int x4), (5, .int x5), (6, .int x6)] → wj_b_L_law_105 xs L k47 o v x3 x4 x5 x6 y0 → W p l e room_1 s m #[Value.ref b] below meth c H locs k z (lw_Z below #[Value.ref b] s) (F0 m 105 ls [.int y0]) := by
    intro k47 nn47 hk47 k z o v x3 x4 x5 x6 y0 H locs ls hbk hbz hz_x3 hz_y0 hP hD hS hl hw
    unfold wj_b_L_law_105 at hw
    refine lv_istore_n (lv' := [(3, .int y0), (0, .ref b), (1, .ref (a 0)), (2, .ref (a2 0)), (4, .int x4), (5, .int x5), (6, .int x6)]) hx hb dL_law_105 rfl hl (by decide) rfl (fun ls hl => ?_)
    refine lv_iload hx hb dL_law_106 (lv_at hl 4 rfl) ?_
    refine lv_bipush (v := 8) hx hb dL_law_108 (by decide) ?_
    refine lv_irem hx hb dL_law_110 (by decide) ?_
    refine lv_iconst (v := 3) hx hb dL_law_111 (by decide) ?_
    refine lv_icmp_ne (tgt := 139) hx hb dL_law_112 (by decide) (fun cd23 => ?_) (fun cd23 => ?_)
    · have hw := hw.1 cd23
      exact J139 k47 nn47 hk47 _ _ o v y0 x4 x5 x6 _ _ _ (by omega) (by omega) hz_y0 hP hD hS (lv_sub hl [1, 2, 3, 0, 4, 5, 6] rfl) hw
    · have hw := hw.2 cd23
      refine lv_iload_n hx hb dL_law_115 rfl (lv_at hl 0 rfl) ?_
      refine lv_if_eq (tgt := 137) hx hb dL_law_116 (by decide) (fun cd45 => ?_) (fun cd45 => ?_)
      · have hw := hw.1 cd45
        exact J137 k47 nn47 hk47 _ _ o v y0 x4 x5 x6 _ _ _ (by omega) (by omega) hz_y0 hP hD hS (lv_sub hl [1, 2, 3, 0, 4, 5, 6] rfl) hw
      · have hw := hw.2 cd45
        refine lv_aload_n hx hb dL_law_119 rfl (lv_at hl 3 rfl) ?_
        refine kR_i (kr_S [] ⟨hx, hb, hml, hown, hts⟩ (cb_L_errors l hst G a2 v hw H.size) (va_cwS 1 hts gL_law_L_errors rfl rfl rfl (by decide +kernel) ⟨Nat.le_of_ble_eq_true rfl, Nat.le_of_ble_eq_true rfl⟩) hK hG hP hD hS hA ((List.range 51).map (fun i => 51 + i)) nd51R (rgR G a a2 _ _) rfl hl.1 rfl (Nat.le_of_ble_eq_true rfl) dL_law_120 ⟨by show _ ≤ 600130; omega, by show _ ≤ 7301080; omega⟩) hP hD hS hA (fun r46 o47 H locs hw hP hD hS => ?_)
        obtain ⟨hz_r46, hw⟩ := hw
        refine lv_if_eq (tgt := 137) hx hb dL_law_123 (by decide) (fun cd48 => ?_) (fun cd48 => ?_)
        · have hw := hw.1 cd48
          exact J137 k47 nn47 hk47 _ _ o o47 y0 x4 x5 x6 _ _ _ (by omega) (by omega) hz_y0 hP hD hS (lv_sub hl [1, 2, 3, 0, 4, 5, 6] rfl) hw
        · have hw := hw.2 cd48
          refine lv_aload_n hx hb dL_law_126 rfl (lv_at hl 3 rfl) ?_
          refine kR_i (kr_S [] ⟨hx, hb, hml, hown, hts⟩ (cb_L_kept l hst G a2 o47 hw H.size) (va_cwS 1 hts gL_law_L_kept rfl rfl rfl (by decide +kernel) ⟨Nat.le_of_ble_eq_true rfl, Nat.le_of_ble_eq_true rfl⟩) hK hG hP hD hS hA ((List.range 51).map (fun i => 51 + i)) nd51R (rgR G a a2 _ _) rfl hl.1 rfl (Nat.le_of_ble_eq_true rfl) dL_law_127 ⟨by show _ ≤ 600130; omega, by show _ ≤ 7301080; omega⟩) hP hD hS hA (fun r49 o50 H locs hw hP hD hS => ?_)
          obtain ⟨hz_r49, hw⟩ := hw
          refine lv_if_eq (tgt := 137) hx hb dL_law_130 (by decide) (fun cd51 => ?_) (fun cd51 => ?_)
          · have hw := hw.1 cd51
            exact J137 k47 nn47 hk47 _ _ o o50 y0 x4 x5 x6 _ _ _ (by omega) (by omega) hz_y0 hP hD hS (lv_sub hl [1, 2, 3, 0, 4, 5, 6] rfl) hw
          · have hw := hw.2 cd51
            refine lv_iconst (v := 1) hx hb dL_law_133 (by decide) ?_
            refine lv_goto (tgt := 138) hx hb dL_law_134 (by decide) ?_
            exact J138 k47 nn47 hk47 _ _ o o50 y0 x4 x5 x6 (1 : Int32) _ _ _ (by omega) (by omega) hz_y0 (Or.inr rfl) hP hD hS (lv_sub hl [1, 2, 3, 0, 4, 5, 6] rfl) hw
  have J47 : ∀ (n : Nat) (k z : Nat) (o : OB) (v : OB) (x3 : Int32) (x4 : Int32) (H : Heap) (locs : List Loc) (ls : Array Slot), k + (n * 4015 + 0) ≤ 600000 → z + 6 * (n * 4015 + 0) ≤ 6000000 → (x3 = 0 ∨ x3 = 1) → va_P (gD G) vwCl (wOB G a o ++ wOB G a2 v) H → va_D A (wOB G a o ++ wOB G a2 v) → va_S A s.heap H locs → lv_has ls 8 [(0, .ref b), (1, .ref (a 0)), (2, .ref (a2 0)), (3, .int x3), (4, .int x4)] → wl_b_L_law_47 xs L n o v x3 x4 → W p l e room_1 s m #[Value.ref b] below meth c H locs k z (lw_Z below #[Value.ref b] s) (F0 m 47 ls []) := by
    intro n
    induction n with
    | zero => intro k z o v x3 x4 H locs ls hbk hbz hz_x3 hP hD hS hl hw; exact False.elim hw
    | succ n ih =>
      intro k z o v x3 x4 H locs ls hbk hbz hz_x3 hP hD hS hl hw
      rw [wl_b_L_law_47] at hw
      refine lv_iload hx hb dL_law_47 (lv_at hl 4 rfl) ?_
      refine lv_bipush (v := 40) hx hb dL_law_49 (by decide) ?_
      refine lv_icmp_ge (tgt := 250) hx hb dL_law_51 (by decide) (fun cd5 => ?_) (fun cd5 => ?_)
      · have hw := hw.1 cd5
        exact J250 _ _ o v x3 x4 _ _ _ (by omega) (by omega) hz_x3 hP hD hS hl hw
      · have hw := hw.2 cd5
        refine lv_iload_n hx hb dL_law_54 rfl (lv_at hl 3 rfl) ?_
        refine lv_if_eq (tgt := 250) hx hb dL_law_55 (by decide) (fun cd11 => ?_) (fun cd11 => ?_)
        · have hw := hw.1 cd11
          exact J250 _ _ o v x3 x4 _ _ _ (by omega) (by omega) hz_x3 hP hD hS hl hw
        · have hw := hw.2 cd11
          refine lv_aload_n hx hb dL_law_58 rfl (lv_at hl 0 rfl) ?_
          refine lv_iconst (v := 2) hx hb dL_law_59 (by decide) ?_
          refine lv_iload hx hb dL_law_60 (lv_at hl 4 rfl) ?_
          refine lv_imul hx hb dL_law_62 ?_
          obtain ⟨h14, hw⟩ := hw
          refine kdraw h14 ⟨hx, hb, hml, hown, hts⟩ (va_cwS 2 hts gL_law_L_draw rfl rfl rfl (by decide +kernel) ⟨Nat.le_of_ble_eq_true rfl, Nat.le_of_ble_eq_true rfl⟩) hK hG hP hD hS hA hX hbl hbA hl.1 (Nat.le_of_ble_eq_true rfl) dL_law_63 ⟨by show _ ≤ 600130; omega, by show _ ≤ 7301080; omega⟩ (fun H locs hP hS => ?_)
          refine lv_istore (lv' := [(5, .int (drawV xs L ((2 : Int32) * x4))), (0, .ref b), (1, .ref (a 0)), (2, .ref (a2 0)), (3, .int x3), (4, .int x4)]) hx hb dL_law_66 hl (by decide) rfl (fun ls hl => ?_)
          refine lv_aload_n hx hb dL_law_68 rfl (lv_at hl 1 rfl) ?_
          refine lv_iconst (v := 2) hx hb dL_law_69 (by decide) ?_
          refine lv_iload hx hb dL_law_70 (lv_at hl 5 rfl) ?_
          refine lv_imul hx hb dL_law_72 ?_
          refine lv_iconst (v := 1) hx hb dL_law_73 (by decide) ?_
          refine lv_iadd hx hb dL_law_74 ?_
          obtain ⟨h17, hw⟩ := hw
          refine kdraw h17 ⟨hx, hb, hml, hown, hts⟩ (va_cwS 2 hts gL_law_L_draw rfl rfl rfl (by decide +kernel) ⟨Nat.le_of_ble_eq_true rfl, Nat.le_of_ble_eq_true rfl⟩) hK hG hP hD hS hA hX hbl hbA hl.1 (Nat.le_of_ble_eq_true rfl) dL_law_75 ⟨by show _ ≤ 600130; omega, by show _ ≤ 7301080; omega⟩ (fun H locs hP hS => ?_)
          refine lv_istore (lv' := [(6, .int (drawV xs L (((2 : Int32) * x4) + (1 : Int32)))), (5, .int (drawV xs L ((2 : Int32) * x4))), (0, .ref b), (1, .ref (a 0)), (2, .ref (a2 0)), (3, .int x3), (4, .int x4)]) hx hb dL_law_78 hl (by decide) rfl (fun ls hl => ?_)
          refine lv_aload_n hx hb dL_law_80 rfl (lv_at hl 3 rfl) ?_
          refine lv_iload hx hb dL_law_81 (lv_at hl 1 rfl) ?_
          refine lv_iload hx hb dL_law_83 (lv_at hl 0 rfl) ?_
          refine kL_l (kr_S [] ⟨hx, hb, hml, hown, hts⟩ (cb_L_act l hst G a o (drawV xs L ((2 : Int32) * x4)) (drawV xs L (((2 : Int32) * x4) + (1 : Int32))) hw H.size) (va_cwS 3 hts gL_law_L_act rfl rfl rfl (by decide +kernel) ⟨Nat.le_of_ble_eq_true rfl, Nat.le_of_ble_eq_true rfl⟩) hK hG hP hD hS hA (List.range 51) nd51 (rgL G a a2 _ _) rfl hl.1 rfl (Nat.le_of_ble_eq_true rfl) dL_law_85 ⟨by show _ ≤ 600130; omega, by show _ ≤ 7301080; omega⟩) hP hD hS hA (fun r18 o19 H locs hw hP hD hS => ?_)
          refine lv_aload_n hx hb dL_law_88 rfl (lv_at hl 4 rfl) ?_
          refine lv_iload hx hb dL_law_89 (lv_at hl 1 rfl) ?_
          refine lv_iload hx hb dL_law_91 (lv_at hl 0 rfl) ?_
          refine kR_l (kr_S [.long r18] ⟨hx, hb, hml, hown, hts⟩ (cb_L_act l hst G a2 v (drawV xs L ((2 : Int32) * x4)) (drawV xs L (((2 : Int32) * x4) + (1 : Int32))) hw H.size) (va_cwS 3 hts gL_law_L_act rfl rfl rfl (by decide +kernel) ⟨Nat.le_of_ble_eq_true rfl, Nat.le_of_ble_eq_true rfl⟩) hK hG hP hD hS hA ((List.range 51).map (fun i => 51 + i)) nd51R (rgR G a a2 _ _) rfl hl.1 rfl (Nat.le_of_ble_eq_true rfl) dL_law_93 ⟨by show _ ≤ 600130; omega, by show _ ≤ 7301080; omega⟩) hP hD hS hA (fun r20 o21 H locs hw hP hD hS => ?_)
          refine W.lcmp hx hb dL_law_96 ?_
          refine lv_if_ne (tgt := 104) hx hb dL_law_97 (by decide) (fun cd22 => ?_) (fun cd22 => ?_)
          · have hw := hw.1 cd22
            refine lv_iconst (v := 0) hx hb dL_law_104 (by decide) ?_
            exact J105 (fun (z0 : OB) (z1 : OB) (z2 : Int32) (z3 : Int32) => wl_b_L_law_47 xs L n z0 z1 z2 z3) (n * 4015 + 0) ih _ _ o19 o21 x3 x4 (drawV xs L ((2 : Int32) * x4)) (drawV xs L (((2 : Int32) * x4) + (1 : Int32))) (0 : Int32) _ _ _ (by omega) (by omega) hz_x3 (Or.inl rfl) hP hD hS (lv_sub hl [2, 3, 4, 5, 6, 1, 0] rfl) hw
          · have hw := hw.2 cd22
            refine lv_iconst (v := 1) hx hb dL_law_100 (by decide) ?_
            refine lv_goto (tgt := 105) hx hb dL_law_101 (by decide) ?_
            exact J105 (fun (z0 : OB) (z1 : OB) (z2 : Int32) (z3 : Int32) => wl_b_L_law_47 xs L n z0 z1 z2 z3) (n * 4015 + 0) ih _ _ o19 o21 x3 x4 (drawV xs L ((2 : Int32) * x4)) (drawV xs L (((2 : Int32) * x4) + (1 : Int32))) (1 : Int32) _ _ _ (by omega) (by omega) hz_x3 (Or.inr rfl) hP hD hS (lv_sub hl [2, 3, 4, 5, 6, 1, 0] rfl) hw
  unfold wb_law at hw
  refine lv_aload_n hx hb dL_law_16 rfl (lv_at hl 1 rfl) ?_
  refine lv_aload_n hx hb dL_law_17 rfl (lv_at hl 2 rfl) ?_
  refine kI_i (kr_S [] ⟨hx, hb, hml, hown, hts⟩ (cb_L_alike l hst G a a2 o v hw H.size) (va_cwS 2 hts gL_law_L_alike rfl rfl rfl (by decide +kernel) ⟨Nat.le_of_ble_eq_true rfl, Nat.le_of_ble_eq_true rfl⟩) hK hG hP hD hS hA (List.range 102) nd102 (rg102 G a a2 _ _) rfl hl.1 rfl (Nat.le_of_ble_eq_true rfl) dL_law_18 ⟨by show _ ≤ 600130; omega, by show _ ≤ 7301080; omega⟩) hP hD hS hA (fun r1 u H locs hw hP hD hS => ?_)
  obtain ⟨o2, v3⟩ := u
  try dsimp only at hw hP hD
  obtain ⟨hz_r1, hw⟩ := hw
  refine lv_if_eq (tgt := 42) hx hb dL_law_21 (by decide) (fun cd4 => ?_) (fun cd4 => ?_)
  · have hw := hw.1 cd4
    refine lv_iconst (v := 0) hx hb dL_law_42 (by decide) ?_
    refine lv_istore_n (lv' := [(3, .int (0 : Int32)), (0, .ref b), (1, .ref (a 0)), (2, .ref (a2 0))]) hx hb dL_law_43 rfl hl (by decide) rfl (fun ls hl => ?_)
    refine lv_iconst (v := 0) hx hb dL_law_44 (by decide) ?_
    refine lv_istore (lv' := [(4, .int (0 : Int32)), (3, .int (0 : Int32)), (0, .ref b), (1, .ref (a 0)), (2, .ref (a2 0))]) hx hb dL_law_45 hl (by decide) rfl (fun ls hl => ?_)
    exact J47 41 _ _ o2 v3 (0 : Int32) (0 : Int32) _ _ _ (by omega) (by omega) (Or.inl rfl) hP hD hS (lv_sub hl [2, 3, 4, 1, 0] rfl) hw
  · have hw := hw.2 cd4
    refine lv_aload_n hx hb dL_law_24 rfl (lv_at hl 1 rfl) ?_
    refine kL_i (kr_S [] ⟨hx, hb, hml, hown, hts⟩ (cb_L_errors l hst G a o2 hw H.size) (va_cwS 1 hts gL_law_L_errors rfl rfl rfl (by decide +kernel) ⟨Nat.le_of_ble_eq_true rfl, Nat.le_of_ble_eq_true rfl⟩) hK hG hP hD hS hA (List.range 51) nd51 (rgL G a a2 _ _) rfl hl.1 rfl (Nat.le_of_ble_eq_true rfl) dL_law_25 ⟨by show _ ≤ 600130; omega, by show _ ≤ 7301080; omega⟩) hP hD hS hA (fun r52 o53 H locs hw hP hD hS => ?_)
    obtain ⟨hz_r52, hw⟩ := hw
    refine lv_if_eq (tgt := 42) hx hb dL_law_28 (by decide) (fun cd54 => ?_) (fun cd54 => ?_)
    · have hw := hw.1 cd54
      refine lv_iconst (v := 0) hx hb dL_law_42 (by decide) ?_
      refine lv_istore_n (lv' := [(3, .int (0 : Int32)), (0, .ref b), (1, .ref (a 0)), (2, .ref (a2 0))]) hx hb dL_law_43 rfl hl (by decide) rfl (fun ls hl => ?_)
      refine lv_iconst (v := 0) hx hb dL_law_44 (by decide) ?_
      refine lv_istore (lv' := [(4, .int (0 : Int32)), (3, .int (0 : Int32)), (0, .ref b), (1, .ref (a 0)), (2, .ref (a2 0))]) hx hb dL_law_45 hl (by decide) rfl (fun ls hl => ?_)
      exact J47 41 _ _ o53 v3 (0 : Int32) (0 : Int32) _ _ _ (by omega) (by omega) (Or.inl rfl) hP hD hS (lv_sub hl [2, 3, 4, 1, 0] rfl) hw
    · have hw := hw.2 cd54
      refine lv_aload_n hx hb dL_law_31 rfl (lv_at hl 1 rfl) ?_
      refine kL_i (kr_S [] ⟨hx, hb, hml, hown, hts⟩ (cb_L_kept l hst G a o53 hw H.size) (va_cwS 1 hts gL_law_L_kept rfl rfl rfl (by decide +kernel) ⟨Nat.le_of_ble_eq_true rfl, Nat.le_of_ble_eq_true rfl⟩) hK hG hP hD hS hA (List.range 51) nd51 (rgL G a a2 _ _) rfl hl.1 rfl (Nat.le_of_ble_eq_true rfl) dL_law_32 ⟨by show _ ≤ 600130; omega, by show _ ≤ 7301080; omega⟩) hP hD hS hA (fun r55 o56 H locs hw hP hD hS => ?_)
      obtain ⟨hz_r55, hw⟩ := hw
      refine lv_if_eq (tgt := 42) hx hb dL_law_35 (by decide) (fun cd57 => ?_) (fun cd57 => ?_)
      · have hw := hw.1 cd57
        refine lv_iconst (v := 0) hx hb dL_law_42 (by decide) ?_
        refine lv_istore_n (lv' := [(3, .int (0 : Int32)), (0, .ref b), (1, .ref (a 0)), (2, .ref (a2 0))]) hx hb dL_law_43 rfl hl (by decide) rfl (fun ls hl => ?_)
        refine lv_iconst (v := 0) hx hb dL_law_44 (by decide) ?_
        refine lv_istore (lv' := [(4, .int (0 : Int32)), (3, .int (0 : Int32)), (0, .ref b), (1, .ref (a 0)), (2, .ref (a2 0))]) hx hb dL_law_45 hl (by decide) rfl (fun ls hl => ?_)
        exact J47 41 _ _ o56 v3 (0 : Int32) (0 : Int32) _ _ _ (by omega) (by omega) (Or.inl rfl) hP hD hS (lv_sub hl [2, 3, 4, 1, 0] rfl) hw
      · have hw := hw.2 cd57
        refine lv_iconst (v := 1) hx hb dL_law_38 (by decide) ?_
        refine lv_goto (tgt := 43) hx hb dL_law_39 (by decide) ?_
        refine lv_istore_n (lv' := [(3, .int (1 : Int32)), (0, .ref b), (1, .ref (a 0)), (2, .ref (a2 0))]) hx hb dL_law_43 rfl hl (by decide) rfl (fun ls hl => ?_)
        refine lv_iconst (v := 0) hx hb dL_law_44 (by decide) ?_
        refine lv_istore (lv' := [(4, .int (0 : Int32)), (3, .int (1 : Int32)), (0, .ref b), (1, .ref (a 0)), (2, .ref (a2 0))]) hx hb dL_law_45 hl (by decide) rfl (fun ls hl => ?_)
        exact J47 41 _ _ o56 v3 (1 : Int32) (0 : Int32) _ _ _ (by omega) (by omega) (Or.inr rfl) hP hD hS (lv_sub hl [2, 3, 4, 1, 0] rfl) hw
