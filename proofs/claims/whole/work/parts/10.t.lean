def wn_X1_clashWithTimes (db : Nat → Int32) (de : Nat → Int32) (df : Nat → Int32) (dc : Int32) (dp : Int32) (dk : Int32) (a1 : Int32) (a2 : Int32) (a3 : Int32) (a4 : Int32) (Q : Int32 → Prop) : Prop :=
  (vp_in a1 14 ∧ ((((de a1.toNatClampNeg) + a4) ≤ a2 → (Q (0 : Int32))) ∧ (¬ ((de a1.toNatClampNeg) + a4) ≤ a2 → (vp_in a1 14 ∧ (((a3 + a4) ≤ (db a1.toNatClampNeg) → (Q (0 : Int32))) ∧ (¬ (a3 + a4) ≤ (db a1.toNatClampNeg) → (Q (1 : Int32))))))))
def wn_X1_clash (db : Nat → Int32) (de : Nat → Int32) (df : Nat → Int32) (dc : Int32) (dp : Int32) (dk : Int32) (a1 : Int32) (a2 : Int32) (Q : Int32 → Prop) : Prop :=
  ((a1 = a2 → (Q (0 : Int32))) ∧ (¬ a1 = a2 → (vp_in a2 14 ∧ (vp_in a2 14 ∧ (wn_X1_clashWithTimes db de df dc dp dk a1 (db a2.toNatClampNeg) (de a2.toNatClampNeg) dp (fun (r4 : Int32) => ((r4 = 0 → (Q (0 : Int32))) ∧ (¬ r4 = 0 → (Q (1 : Int32))))))))))
def wn_X5_bit (a0 : Int32) (Q : Int32 → Prop) : Prop :=
  (Q ((1 : Int32) <<< (a0 &&& 31)))
def wl_n_X1_conflictsWith_4 (db : Nat → Int32) (de : Nat → Int32) (df : Nat → Int32) (dc : Int32) (dp : Int32) (dk : Int32) (Q : Int32 → Prop) : Nat → Int32 → Int32 → Int32 → Prop
  | 0, _, _, _ => False
  | n + 1, x1, x2, x3 =>
    ((dc ≤ x3 → (Q x2)) ∧ (¬ dc ≤ x3 → (wn_X1_clash db de df dc dp dk x1 x3 (fun (r2 : Int32) => ((r2 = 0 → (wl_n_X1_conflictsWith_4 db de df dc dp dk Q n x1 x2 (x3 + 1))) ∧ (¬ r2 = 0 → (wn_X5_bit x3 (fun (r4 : Int32) => (wl_n_X1_conflictsWith_4 db de df dc dp dk Q n x1 (x2 ||| r4) (x3 + 1))))))))))
def wn_X1_conflictsWith (db : Nat → Int32) (de : Nat → Int32) (df : Nat → Int32) (dc : Int32) (dp : Int32) (dk : Int32) (a1 : Int32) (Q : Int32 → Prop) : Prop :=
  (∃ n, wl_n_X1_conflictsWith_4 db de df dc dp dk Q n a1 (0 : Int32) (0 : Int32))
def wn_X1_copyRehearsal_self (db : Nat → Int32) (de : Nat → Int32) (df : Nat → Int32) (dc : Int32) (dp : Int32) (dk : Int32) (a2 : Int32) (a3 : Int32) (Q : (Nat → Int32) → (Nat → Int32) → (Nat → Int32) → Prop) : Prop :=
  (vp_in a2 14 ∧ (vp_in a3 14 ∧ (vp_in a2 14 ∧ (vp_in a3 14 ∧ (vp_in a2 14 ∧ (vp_in a3 14 ∧ (Q (upd db a3.toNatClampNeg (db a2.toNatClampNeg)) (upd de a3.toNatClampNeg (de a2.toNatClampNeg)) (upd df a3.toNatClampNeg (df a2.toNatClampNeg)))))))))
def wl_n_X1_takeOut_4 (dp : Int32) (Q : (Nat → Int32) → (Nat → Int32) → (Nat → Int32) → Int32 → Int32 → Prop) : Nat → (Nat → Int32) → (Nat → Int32) → (Nat → Int32) → Int32 → Int32 → Int32 → Int32 → Prop
  | 0, _, _, _, _, _, _, _ => False
  | n + 1, db, de, df, dc, dk, x1, x2 =>
    ((dc ≤ x2 → (wn_X5_bit x1 (fun (r2 : Int32) => (Q db de df (dc - (1 : Int32)) ((dk &&& (r2 - (1 : Int32))) ||| ((dk >>> ((x1 + (1 : Int32)) &&& 31)) <<< (x1 &&& 31))))))) ∧ (¬ dc ≤ x2 → (wn_X1_copyRehearsal_self db de df dc dp dk x2 (x2 - (1 : Int32)) (fun (db_3 : Nat → Int32) (de_4 : Nat → Int32) (df_5 : Nat → Int32) => (wl_n_X1_takeOut_4 dp Q n db_3 de_4 df_5 dc dk x1 (x2 + 1))))))
def wn_X1_takeOut (db : Nat → Int32) (de : Nat → Int32) (df : Nat → Int32) (dc : Int32) (dp : Int32) (dk : Int32) (a1 : Int32) (Q : (Nat → Int32) → (Nat → Int32) → (Nat → Int32) → Int32 → Int32 → Prop) : Prop :=
  (∃ n, wl_n_X1_takeOut_4 dp Q n db de df dc dk a1 (a1 + (1 : Int32)))
def wn_X5_isIn (a0 : Int32) (a1 : Int32) (Q : Int32 → Prop) : Prop :=
  (wn_X5_bit a1 (fun (r1 : Int32) => (((a0 &&& r1) = 0 → (Q (0 : Int32))) ∧ (¬ (a0 &&& r1) = 0 → (Q (1 : Int32))))))
def wl_n_X1_fameOfSet_4 (db : Nat → Int32) (de : Nat → Int32) (df : Nat → Int32) (dc : Int32) (dp : Int32) (dk : Int32) (Q : Int32 → Prop) : Nat → Int32 → Int32 → Int32 → Prop
  | 0, _, _, _ => False
  | n + 1, x1, x2, x3 =>
    ((dc ≤ x3 → (Q x2)) ∧ (¬ dc ≤ x3 → (wn_X5_isIn x1 x3 (fun (r2 : Int32) => ((r2 = 0 → (wl_n_X1_fameOfSet_4 db de df dc dp dk Q n x1 x2 (x3 + 1))) ∧ (¬ r2 = 0 → (vp_in x3 14 ∧ (wl_n_X1_fameOfSet_4 db de df dc dp dk Q n x1 (x2 + (df x3.toNatClampNeg)) (x3 + 1)))))))))
def wn_X1_fameOfSet (db : Nat → Int32) (de : Nat → Int32) (df : Nat → Int32) (dc : Int32) (dp : Int32) (dk : Int32) (a1 : Int32) (Q : Int32 → Prop) : Prop :=
  (∃ n, wl_n_X1_fameOfSet_4 db de df dc dp dk Q n a1 (0 : Int32) (0 : Int32))
def wj_x_X5_requireRehearsal_15 (db : Nat → Int32) (de : Nat → Int32) (df : Nat → Int32) (dc : Int32) (dp : Int32) (dk : Int32) (Q : Prop) (X : String → Prop) (x1 : Int32) : Prop :=
    (X "java/lang/IndexOutOfBoundsException")
def wx_X5_requireRehearsal (db : Nat → Int32) (de : Nat → Int32) (df : Nat → Int32) (dc : Int32) (dp : Int32) (dk : Int32) (a1 : Int32) (Q : Prop) (X : String → Prop) : Prop :=
  ((a1 < 0 → (wj_x_X5_requireRehearsal_15 db de df dc dp dk Q X a1)) ∧ (¬ a1 < 0 → ((a1 < dc → (Q)) ∧ (¬ a1 < dc → (wj_x_X5_requireRehearsal_15 db de df dc dp dk Q X a1)))))
def wn_X1_copyRehearsal_two (db : Nat → Int32) (de : Nat → Int32) (df : Nat → Int32) (dc : Int32) (dp : Int32) (dk : Int32) (ob : Nat → Int32) (oe : Nat → Int32) (of : Nat → Int32) (oc : Int32) (op : Int32) (ok : Int32) (a2 : Int32) (a3 : Int32) (Q : (Nat → Int32) → (Nat → Int32) → (Nat → Int32) → Prop) : Prop :=
  (vp_in a2 14 ∧ (vp_in a3 14 ∧ (vp_in a2 14 ∧ (vp_in a3 14 ∧ (vp_in a2 14 ∧ (vp_in a3 14 ∧ (Q (upd db a3.toNatClampNeg (ob a2.toNatClampNeg)) (upd de a3.toNatClampNeg (oe a2.toNatClampNeg)) (upd df a3.toNatClampNeg (of a2.toNatClampNeg)))))))))
def wl_n_X1_copyFrom_2 (ob : Nat → Int32) (oe : Nat → Int32) (of : Nat → Int32) (oc : Int32) (op : Int32) (ok : Int32) (Q : (Nat → Int32) → (Nat → Int32) → (Nat → Int32) → Int32 → Int32 → Int32 → Prop) : Nat → (Nat → Int32) → (Nat → Int32) → (Nat → Int32) → Int32 → Int32 → Int32 → Int32 → Prop
  | 0, _, _, _, _, _, _, _ => False
  | n + 1, db, de, df, dc, dp, dk, x2 =>
    ((oc ≤ x2 → (Q db de df oc op ok)) ∧ (¬ oc ≤ x2 → (wn_X1_copyRehearsal_two db de df dc dp dk ob oe of oc op ok x2 x2 (fun (db_2 : Nat → Int32) (de_3 : Nat → Int32) (df_4 : Nat → Int32) => (wl_n_X1_copyFrom_2 ob oe of oc op ok Q n db_2 de_3 df_4 dc dp dk (x2 + 1))))))
def wn_X1_copyFrom (db : Nat → Int32) (de : Nat → Int32) (df : Nat → Int32) (dc : Int32) (dp : Int32) (dk : Int32) (ob : Nat → Int32) (oe : Nat → Int32) (of : Nat → Int32) (oc : Int32) (op : Int32) (ok : Int32) (Q : (Nat → Int32) → (Nat → Int32) → (Nat → Int32) → Int32 → Int32 → Int32 → Prop) : Prop :=
  (∃ n, wl_n_X1_copyFrom_2 ob oe of oc op ok Q n db de df dc dp dk (0 : Int32))
def wj_n_X3_save_32 (db : Nat → Int32) (de : Nat → Int32) (df : Nat → Int32) (dc : Int32) (dp : Int32) (dk : Int32) (Q : Int32 → Int32 → (Nat → Nat → Int32) → (Nat → Nat → Int32) → (Nat → Nat → Int32) → (Nat → Int32) → (Nat → Int32) → (Nat → Int32) → Prop) (so : Int32) (sn : Int32) (sb : Nat → Nat → Int32) (se : Nat → Nat → Int32) (sf : Nat → Nat → Int32) (sc : Nat → Int32) (sp : Nat → Int32) (sk : Nat → Int32) : Prop :=
    (vp_in ((so + sn) - (so + sn) / (6 : Int32) * (6 : Int32)) 6 ∧ ((((so + sn) - (so + sn) / (6 : Int32) * (6 : Int32)) = 0 → (wn_X1_copyFrom (sb 0) (se 0) (sf 0) (sc 0) (sp 0) (sk 0) db de df dc dp dk (fun (db_3 : Nat → Int32) (de_4 : Nat → Int32) (df_5 : Nat → Int32) (dc_6 : Int32) (dp_7 : Int32) (dk_8 : Int32) => (Q so (sn + (1 : Int32)) (va_up sb 0 db_3) (va_up se 0 de_4) (va_up sf 0 df_5) (va_up sc 0 dc_6) (va_up sp 0 dp_7) (va_up sk 0 dk_8))))) ∧ (((so + sn) - (so + sn) / (6 : Int32) * (6 : Int32)) = 1 → (wn_X1_copyFrom (sb 1) (se 1) (sf 1) (sc 1) (sp 1) (sk 1) db de df dc dp dk (fun (db_9 : Nat → Int32) (de_10 : Nat → Int32) (df_11 : Nat → Int32) (dc_12 : Int32) (dp_13 : Int32) (dk_14 : Int32) => (Q so (sn + (1 : Int32)) (va_up sb 1 db_9) (va_up se 1 de_10) (va_up sf 1 df_11) (va_up sc 1 dc_12) (va_up sp 1 dp_13) (va_up sk 1 dk_14))))) ∧ (((so + sn) - (so + sn) / (6 : Int32) * (6 : Int32)) = 2 → (wn_X1_copyFrom (sb 2) (se 2) (sf 2) (sc 2) (sp 2) (sk 2) db de df dc dp dk (fun (db_15 : Nat → Int32) (de_16 : Nat → Int32) (df_17 : Nat → Int32) (dc_18 : Int32) (dp_19 : Int32) (dk_20 : Int32) => (Q so (sn + (1 : Int32)) (va_up sb 2 db_15) (va_up se 2 de_16) (va_up sf 2 df_17) (va_up sc 2 dc_18) (va_up sp 2 dp_19) (va_up sk 2 dk_20))))) ∧ (((so + sn) - (so + sn) / (6 : Int32) * (6 : Int32)) = 3 → (wn_X1_copyFrom (sb 3) (se 3) (sf 3) (sc 3) (sp 3) (sk 3) db de df dc dp dk (fun (db_21 : Nat → Int32) (de_22 : Nat → Int32) (df_23 : Nat → Int32) (dc_24 : Int32) (dp_25 : Int32) (dk_26 : Int32) => (Q so (sn + (1 : Int32)) (va_up sb 3 db_21) (va_up se 3 de_22) (va_up sf 3 df_23) (va_up sc 3 dc_24) (va_up sp 3 dp_25) (va_up sk 3 dk_26))))) ∧ (((so + sn) - (so + sn) / (6 : Int32) * (6 : Int32)) = 4 → (wn_X1_copyFrom (sb 4) (se 4) (sf 4) (sc 4) (sp 4) (sk 4) db de df dc dp dk (fun (db_27 : Nat → Int32) (de_28 : Nat → Int32) (df_29 : Nat → Int32) (dc_30 : Int32) (dp_31 : Int32) (dk_32 : Int32) => (Q so (sn + (1 : Int32)) (va_up sb 4 db_27) (va_up se 4 de_28) (va_up sf 4 df_29) (va_up sc 4 dc_30) (va_up sp 4 dp_31) (va_up sk 4 dk_32))))) ∧ (((so + sn) - (so + sn) / (6 : Int32) * (6 : Int32)) = 5 → (wn_X1_copyFrom (sb 5) (se 5) (sf 5) (sc 5) (sp 5) (sk 5) db de df dc dp dk (fun (db_33 : Nat → Int32) (de_34 : Nat → Int32) (df_35 : Nat → Int32) (dc_36 : Int32) (dp_37 : Int32) (dk_38 : Int32) => (Q so (sn + (1 : Int32)) (va_up sb 5 db_33) (va_up se 5 de_34) (va_up sf 5 df_35) (va_up sc 5 dc_36) (va_up sp 5 dp_37) (va_up sk 5 dk_38)))))))
def wn_X3_save (so : Int32) (sn : Int32) (sb : Nat → Nat → Int32) (se : Nat → Nat → Int32) (sf : Nat → Nat → Int32) (sc : Nat → Int32) (sp : Nat → Int32) (sk : Nat → Int32) (db : Nat → Int32) (de : Nat → Int32) (df : Nat → Int32) (dc : Int32) (dp : Int32) (dk : Int32) (Q : Int32 → Int32 → (Nat → Nat → Int32) → (Nat → Nat → Int32) → (Nat → Nat → Int32) → (Nat → Int32) → (Nat → Int32) → (Nat → Int32) → Prop) : Prop :=
  ((¬ sn = (6 : Int32) → (wj_n_X3_save_32 db de df dc dp dk Q so sn sb se sf sc sp sk)) ∧ (sn = (6 : Int32) → (wj_n_X3_save_32 db de df dc dp dk Q ((so + (1 : Int32)) - (so + (1 : Int32)) / (6 : Int32) * (6 : Int32)) (sn - (1 : Int32)) sb se sf sc sp sk)))
abbrev w0_X1_clashWithTimes (G : mG) (qd : Nat) (qdb : Nat) (qde : Nat) (qdf : Nat) (db : Nat → Int32) (de : Nat → Int32) (df : Nat → Int32) (dc : Int32) (dp : Int32) (dk : Int32) : va_W := [(qd, .inr (1, [.ref qdb, .ref qde, .ref qdf, .int dc, .int dp, .int dk])), (qdb, .inl (gI G, (14, .inl db))), (qde, .inl (gI G, (14, .inl de))), (qdf, .inl (gI G, (14, .inl df)))]
set_option maxRecDepth 100000 in
theorem k_X1_clashWithTimes_inX1 : ∀ w ∈ u_ws RX1 TX1 6, w ∈ wsX1_clashWithTimes := by decide +kernel
set_option maxRecDepth 100000 in
theorem k_X1_clashWithTimes_f15 : Cond.fieldLink RX1 15 "RehearsalRoom$Day" "ends" "[I" ∈ wsX1_clashWithTimes := by decide +kernel
set_option maxRecDepth 100000 in
theorem k_X1_clashWithTimes_f9 : Cond.fieldLink RX1 9 "RehearsalRoom$Day" "begins" "[I" ∈ wsX1_clashWithTimes := by decide +kernel
set_option maxHeartbeats 8000000 in
set_option maxRecDepth 100000 in
theorem cn_X1_clashWithTimes (l : Launch) (G : mG) (qd : Nat) (qdb : Nat) (qde : Nat) (qdf : Nat) (db : Nat → Int32) (de : Nat → Int32) (df : Nat → Int32) (dc : Int32) (dp : Int32) (dk : Int32) (a1 : Int32) (a2 : Int32) (a3 : Int32) (a4 : Int32) {Q : Int32 → Prop} (hw : wn_X1_clashWithTimes db de df dc dp dk a1 a2 a3 a4 Q) (sz : Nat) :
    Met l yX1_clashWithTimes wsX1_clashWithTimes ({ frames := 0, cells := 0, slots := 0, locals := 0 } : Room) (va_Pc [.ref qd, .int a1, .int a2, .int a3, .int a4] (mPre G (w0_X1_clashWithTimes G qd qdb qde qdf db de df dc dp dk) sz)) (va_Qi (fun (r : Int32) (u : Unit) => (r = 0 ∨ r = 1) ∧ Q r) (mBk G (va_A (w0_X1_clashWithTimes G qd qdb qde qdf db de df dc dp dk) sz) (fun (u : Unit) => (w0_X1_clashWithTimes G qd qdb qde qdf db de df dc dp dk))) (va_A (w0_X1_clashWithTimes G qd qdb qde qdf db de df dc dp dk) sz)) 0 0 (va_A (w0_X1_clashWithTimes G qd qdb qde qdf db de df dc dp dk) sz) := by
  refine ms_i (cc := cX1_clashWithTimes) (maxL := 5) (ret := some .boolean) (post := (fun (r : Int32) (u : Unit) => (r = 0 ∨ r = 1) ∧ Q r)) (w1 := (fun (u : Unit) => (w0_X1_clashWithTimes G qd qdb qde qdf db de df dc dp dk))) (by decide) rfl (Nat.le_of_ble_eq_true rfl) ?_ sz
  intro p e s m below meth c A ls H locs hx hb hr hml hown hts hlocks hK hG hP hD hS hA hl
  have hown : s.vm.findClass RX1 = some m.cls := hown
  have hl : lv_has ls 5 [(0, .ref qd), (1, .int a1), (2, .int a2), (3, .int a3), (4, .int a4)] := hl
  unfold wn_X1_clashWithTimes at hw
  refine lv_aload_n hx hb dX1_clashWithTimes_0 rfl (lv_at hl 0 rfl) ?_
  refine va_get (D := gD G) (ci := 1) (v := .ref qde) (C := RX1) (T := TX1) (N := 6) hx hb hts k_X1_clashWithTimes_inX1 hown hK hP 0 rfl rfl 1 (by decide) (hts _ k_X1_clashWithTimes_f15) (fun _ h9 => h9) rfl dX1_clashWithTimes_1 ?_
  refine lv_iload_n hx hb dX1_clashWithTimes_4 rfl (lv_at hl 1 rfl) ?_
  obtain ⟨h1, hw⟩ := hw
  refine va_iald hx hb hK hP 2 0 rfl rfl h1 dX1_clashWithTimes_5 ?_
  refine lv_iload hx hb dX1_clashWithTimes_6 (lv_at hl 4 rfl) ?_
  refine lv_iadd hx hb dX1_clashWithTimes_8 ?_
  refine lv_iload_n hx hb dX1_clashWithTimes_9 rfl (lv_at hl 2 rfl) ?_
  refine lv_icmp_le (tgt := 30) hx hb dX1_clashWithTimes_10 (by decide) (fun c2 => ?_) (fun c2 => ?_)
  · have hw := hw.1 c2
    refine lv_iconst (v := 0) hx hb dX1_clashWithTimes_30 (by decide) ?_
    exact fin_z () hx hb hr (nz (Or.inl rfl)) hlocks hK hS hP hD ⟨(Or.inl rfl), hw⟩ dX1_clashWithTimes_31
  · have hw := hw.2 c2
    refine lv_iload_n hx hb dX1_clashWithTimes_13 rfl (lv_at hl 3 rfl) ?_
    refine lv_iload hx hb dX1_clashWithTimes_14 (lv_at hl 4 rfl) ?_
    refine lv_iadd hx hb dX1_clashWithTimes_16 ?_
    refine lv_aload_n hx hb dX1_clashWithTimes_17 rfl (lv_at hl 0 rfl) ?_
    refine va_get (D := gD G) (ci := 1) (v := .ref qdb) (C := RX1) (T := TX1) (N := 6) hx hb hts k_X1_clashWithTimes_inX1 hown hK hP 0 rfl rfl 0 (by decide) (hts _ k_X1_clashWithTimes_f9) (fun _ h9 => h9) rfl dX1_clashWithTimes_18 ?_
    refine lv_iload_n hx hb dX1_clashWithTimes_21 rfl (lv_at hl 1 rfl) ?_
    obtain ⟨h3, hw⟩ := hw
    refine va_iald hx hb hK hP 1 0 rfl rfl h3 dX1_clashWithTimes_22 ?_
    refine lv_icmp_le (tgt := 30) hx hb dX1_clashWithTimes_23 (by decide) (fun c4 => ?_) (fun c4 => ?_)
    · have hw := hw.1 c4
      refine lv_iconst (v := 0) hx hb dX1_clashWithTimes_30 (by decide) ?_
      exact fin_z () hx hb hr (nz (Or.inl rfl)) hlocks hK hS hP hD ⟨(Or.inl rfl), hw⟩ dX1_clashWithTimes_31
    · have hw := hw.2 c4
      refine lv_iconst (v := 1) hx hb dX1_clashWithTimes_26 (by decide) ?_
      refine lv_goto (tgt := 31) hx hb dX1_clashWithTimes_27 (by decide) ?_
      exact fin_z () hx hb hr (nz (Or.inr rfl)) hlocks hK hS hP hD ⟨(Or.inr rfl), hw⟩ dX1_clashWithTimes_31
abbrev w0_X1_clash (G : mG) (qd : Nat) (qdb : Nat) (qde : Nat) (qdf : Nat) (db : Nat → Int32) (de : Nat → Int32) (df : Nat → Int32) (dc : Int32) (dp : Int32) (dk : Int32) : va_W := [(qd, .inr (1, [.ref qdb, .ref qde, .ref qdf, .int dc, .int dp, .int dk])), (qdb, .inl (gI G, (14, .inl db))), (qde, .inl (gI G, (14, .inl de))), (qdf, .inl (gI G, (14, .inl df)))]
set_option maxRecDepth 100000 in
theorem k_X1_clash_inX1 : ∀ w ∈ u_ws RX1 TX1 6, w ∈ wsX1_clash := by decide +kernel
set_option maxRecDepth 100000 in
theorem k_X1_clash_f9 : Cond.fieldLink RX1 9 "RehearsalRoom$Day" "begins" "[I" ∈ wsX1_clash := by decide +kernel
set_option maxRecDepth 100000 in
theorem k_X1_clash_f15 : Cond.fieldLink RX1 15 "RehearsalRoom$Day" "ends" "[I" ∈ wsX1_clash := by decide +kernel
set_option maxRecDepth 100000 in
theorem k_X1_clash_f25 : Cond.fieldLink RX1 25 "RehearsalRoom$Day" "pause" "I" ∈ wsX1_clash := by decide +kernel
set_option maxHeartbeats 8000000 in
set_option maxRecDepth 100000 in
theorem cn_X1_clash (l : Launch) (G : mG) (qd : Nat) (qdb : Nat) (qde : Nat) (qdf : Nat) (db : Nat → Int32) (de : Nat → Int32) (df : Nat → Int32) (dc : Int32) (dp : Int32) (dk : Int32) (a1 : Int32) (a2 : Int32) {Q : Int32 → Prop} (hw : wn_X1_clash db de df dc dp dk a1 a2 Q) (sz : Nat) :
    Met l yX1_clash wsX1_clash ({ frames := 1, cells := 0, slots := 0, locals := 24 } : Room) (va_Pc [.ref qd, .int a1, .int a2] (mPre G (w0_X1_clash G qd qdb qde qdf db de df dc dp dk) sz)) (va_Qi (fun (r : Int32) (u : Unit) => (r = 0 ∨ r = 1) ∧ Q r) (mBk G (va_A (w0_X1_clash G qd qdb qde qdf db de df dc dp dk) sz) (fun (u : Unit) => (w0_X1_clash G qd qdb qde qdf db de df dc dp dk))) (va_A (w0_X1_clash G qd qdb qde qdf db de df dc dp dk) sz)) 0 0 (va_A (w0_X1_clash G qd qdb qde qdf db de df dc dp dk) sz) := by
  refine ms_i (cc := cX1_clash) (maxL := 3) (ret := some .boolean) (post := (fun (r : Int32) (u : Unit) => (r = 0 ∨ r = 1) ∧ Q r)) (w1 := (fun (u : Unit) => (w0_X1_clash G qd qdb qde qdf db de df dc dp dk))) (by decide) rfl (Nat.le_of_ble_eq_true rfl) ?_ sz
  intro p e s m below meth c A ls H locs hx hb hr hml hown hts hlocks hK hG hP hD hS hA hl
  have hown : s.vm.findClass RX1 = some m.cls := hown
  have hl : lv_has ls 3 [(0, .ref qd), (1, .int a1), (2, .int a2)] := hl
  unfold wn_X1_clash at hw
  refine lv_iload_n hx hb dX1_clash_0 rfl (lv_at hl 1 rfl) ?_
  refine lv_iload_n hx hb dX1_clash_1 rfl (lv_at hl 2 rfl) ?_
  refine lv_icmp_eq (tgt := 33) hx hb dX1_clash_2 (by decide) (fun c1 => ?_) (fun c1 => ?_)
  · have hw := hw.1 c1
    refine lv_iconst (v := 0) hx hb dX1_clash_33 (by decide) ?_
    exact fin_z () hx hb hr (nz (Or.inl rfl)) hlocks hK hS hP hD ⟨(Or.inl rfl), hw⟩ dX1_clash_34
  · have hw := hw.2 c1
    refine lv_aload_n hx hb dX1_clash_5 rfl (lv_at hl 0 rfl) ?_
    refine lv_iload_n hx hb dX1_clash_6 rfl (lv_at hl 1 rfl) ?_
    refine lv_aload_n hx hb dX1_clash_7 rfl (lv_at hl 0 rfl) ?_
    refine va_get (D := gD G) (ci := 1) (v := .ref qdb) (C := RX1) (T := TX1) (N := 6) hx hb hts k_X1_clash_inX1 hown hK hP 0 rfl rfl 0 (by decide) (hts _ k_X1_clash_f9) (fun _ h9 => h9) rfl dX1_clash_8 ?_
    refine lv_iload_n hx hb dX1_clash_11 rfl (lv_at hl 2 rfl) ?_
    obtain ⟨h2, hw⟩ := hw
    refine va_iald hx hb hK hP 1 0 rfl rfl h2 dX1_clash_12 ?_
    refine lv_aload_n hx hb dX1_clash_13 rfl (lv_at hl 0 rfl) ?_
    refine va_get (D := gD G) (ci := 1) (v := .ref qde) (C := RX1) (T := TX1) (N := 6) hx hb hts k_X1_clash_inX1 hown hK hP 0 rfl rfl 1 (by decide) (hts _ k_X1_clash_f15) (fun _ h9 => h9) rfl dX1_clash_14 ?_
    refine lv_iload_n hx hb dX1_clash_17 rfl (lv_at hl 2 rfl) ?_
    obtain ⟨h3, hw⟩ := hw
    refine va_iald hx hb hK hP 2 0 rfl rfl h3 dX1_clash_18 ?_
    refine lv_aload_n hx hb dX1_clash_19 rfl (lv_at hl 0 rfl) ?_
    refine va_get (D := gD G) (ci := 1) (v := .int dp) (C := RX1) (T := TX1) (N := 6) hx hb hts k_X1_clash_inX1 hown hK hP 0 rfl rfl 4 (by decide) (hts _ k_X1_clash_f25) (fun _ h9 => h9) rfl dX1_clash_20 ?_
    refine kcR_i (kr_V [] ⟨hx, hb, hml, hown, hts⟩ (cn_X1_clashWithTimes l G qd qdb qde qdf db de df dc dp dk a1 (db a2.toNatClampNeg) (de a2.toNatClampNeg) dp hw H.size) (cwV 4 hts gX1_clash_X1_clashWithTimes rfl rfl rfl (by decide +kernel) ⟨Nat.le_of_ble_eq_true rfl, Nat.le_of_ble_eq_true rfl⟩) hK hG hP hD hS hA [0, 1, 2, 3] rfl rfl 1 0 rfl rfl rfl hl.1 rfl (Nat.le_of_ble_eq_true rfl) dX1_clash_23 ⟨Nat.le_of_ble_eq_true rfl, Nat.le_of_ble_eq_true rfl⟩) hP hD hS hA [0, 1, 2, 3] rfl (fun r4 u H locs hw hP hS => ?_)
    try dsimp only at hw
    obtain ⟨hz_r4, hw⟩ := hw
    refine lv_if_eq (tgt := 33) hx hb dX1_clash_26 (by decide) (fun c5 => ?_) (fun c5 => ?_)
    · have hw := hw.1 c5
      refine lv_iconst (v := 0) hx hb dX1_clash_33 (by decide) ?_
      exact fin_z () hx hb hr (nz (Or.inl rfl)) hlocks hK hS hP hD ⟨(Or.inl rfl), hw⟩ dX1_clash_34
    · have hw := hw.2 c5
      refine lv_iconst (v := 1) hx hb dX1_clash_29 (by decide) ?_
      refine lv_goto (tgt := 34) hx hb dX1_clash_30 (by decide) ?_
      exact fin_z () hx hb hr (nz (Or.inr rfl)) hlocks hK hS hP hD ⟨(Or.inr rfl), hw⟩ dX1_clash_34
abbrev w0_X5_bit (G : mG) : va_W := []
set_option maxHeartbeats 8000000 in
set_option maxRecDepth 100000 in
theorem cn_X5_bit (l : Launch) (G : mG) (a0 : Int32) {Q : Int32 → Prop} (hw : wn_X5_bit a0 Q) (sz : Nat) :
    Met l yX5_bit wsX5_bit ({ frames := 0, cells := 0, slots := 0, locals := 0 } : Room) (va_Pc [.int a0] (mPre G (w0_X5_bit G) sz)) (va_Qi (fun (r : Int32) (u : Unit) => Q r) (mBk G (va_A (w0_X5_bit G) sz) (fun (u : Unit) => (w0_X5_bit G))) (va_A (w0_X5_bit G) sz)) 0 0 (va_A (w0_X5_bit G) sz) := by
  refine ms_i (cc := cX5_bit) (maxL := 1) (ret := some .int) (post := (fun (r : Int32) (u : Unit) => Q r)) (w1 := (fun (u : Unit) => (w0_X5_bit G))) (by decide) rfl (Nat.le_of_ble_eq_true rfl) ?_ sz
  intro p e s m below meth c A ls H locs hx hb hr hml hown hts hlocks hK hG hP hD hS hA hl
  have hown : s.vm.findClass RX5 = some m.cls := hown
  have hl : lv_has ls 1 [(0, .int a0)] := hl
  unfold wn_X5_bit at hw
  refine lv_iconst (v := 1) hx hb dX5_bit_0 (by decide) ?_
  refine lv_iload_n hx hb dX5_bit_1 rfl (lv_at hl 0 rfl) ?_
  refine lv_ishl hx hb dX5_bit_2 ?_
  exact fin_i () hx hb hr hlocks hK hS hP hD hw dX5_bit_3
abbrev w0_X1_conflictsWith (G : mG) (qd : Nat) (qdb : Nat) (qde : Nat) (qdf : Nat) (db : Nat → Int32) (de : Nat → Int32) (df : Nat → Int32) (dc : Int32) (dp : Int32) (dk : Int32) : va_W := [(qd, .inr (1, [.ref qdb, .ref qde, .ref qdf, .int dc, .int dp, .int dk])), (qdb, .inl (gI G, (14, .inl db))), (qde, .inl (gI G, (14, .inl de))), (qdf, .inl (gI G, (14, .inl df)))]
set_option maxRecDepth 100000 in
theorem k_X1_conflictsWith_inX1 : ∀ w ∈ u_ws RX1 TX1 6, w ∈ wsX1_conflictsWith := by decide +kernel
set_option maxRecDepth 100000 in
theorem k_X1_conflictsWith_f21 : Cond.fieldLink RX1 21 "RehearsalRoom$Day" "count" "I" ∈ wsX1_conflictsWith := by decide +kernel
set_option maxHeartbeats 8000000 in
set_option maxRecDepth 100000 in
theorem cn_X1_conflictsWith (l : Launch) (G : mG) (qd : Nat) (qdb : Nat) (qde : Nat) (qdf : Nat) (db : Nat → Int32) (de : Nat → Int32) (df : Nat → Int32) (dc : Int32) (dp : Int32) (dk : Int32) (a1 : Int32) {Q : Int32 → Prop} (hw : wn_X1_conflictsWith db de df dc dp dk a1 Q) (sz : Nat) :
    Met l yX1_conflictsWith wsX1_conflictsWith ({ frames := 2, cells := 0, slots := 0, locals := 46 } : Room) (va_Pc [.ref qd, .int a1] (mPre G (w0_X1_conflictsWith G qd qdb qde qdf db de df dc dp dk) sz)) (va_Qi (fun (r : Int32) (u : Unit) => Q r) (mBk G (va_A (w0_X1_conflictsWith G qd qdb qde qdf db de df dc dp dk) sz) (fun (u : Unit) => (w0_X1_conflictsWith G qd qdb qde qdf db de df dc dp dk))) (va_A (w0_X1_conflictsWith G qd qdb qde qdf db de df dc dp dk) sz)) 0 0 (va_A (w0_X1_conflictsWith G qd qdb qde qdf db de df dc dp dk) sz) := by
  refine ms_i (cc := cX1_conflictsWith) (maxL := 4) (ret := some .int) (post := (fun (r : Int32) (u : Unit) => Q r)) (w1 := (fun (u : Unit) => (w0_X1_conflictsWith G qd qdb qde qdf db de df dc dp dk))) (by decide) rfl (Nat.le_of_ble_eq_true rfl) ?_ sz
  intro p e s m below meth c A ls H locs hx hb hr hml hown hts hlocks hK hG hP hD hS hA hl
  have hown : s.vm.findClass RX1 = some m.cls := hown
  have hl : lv_has ls 4 [(0, .ref qd), (1, .int a1)] := hl
  have J4 : ∀ (n : Nat) (x1 : Int32) (x2 : Int32) (x3 : Int32) (H : Heap) (locs : List Loc) (ls : Array Slot), va_P (gD G) vwCl (w0_X1_conflictsWith G qd qdb qde qdf db de df dc dp dk) H → va_D A (w0_X1_conflictsWith G qd qdb qde qdf db de df dc dp dk) → va_S A s.heap H locs → lv_has ls 4 [(0, .ref qd), (1, .int x1), (2, .int x2), (3, .int x3)] → wl_n_X1_conflictsWith_4 db de df dc dp dk Q n x1 x2 x3 → W p l e ({ frames := 2, cells := 0, slots := 0, locals := 46 } : Room) s m ([.ref qd, .int a1] : List Value).toArray below meth c H locs 0 0 (MQ below (va_Qi (fun (r : Int32) (u : Unit) => Q r) (mBk G A (fun (u : Unit) => (w0_X1_conflictsWith G qd qdb qde qdf db de df dc dp dk))) A) ([.ref qd, .int a1] : List Value).toArray s 0 0 A) (F0 m 4 ls []) := by
    intro n
    induction n with
    | zero => intro x1 x2 x3 H locs ls hP hD hS hl hw; exact False.elim hw
    | succ n ih =>
      intro x1 x2 x3 H locs ls hP hD hS hl hw
      rw [wl_n_X1_conflictsWith_4] at hw
      refine lv_iload_n hx hb dX1_conflictsWith_4 rfl (lv_at hl 3 rfl) ?_
      refine lv_aload_n hx hb dX1_conflictsWith_5 rfl (lv_at hl 0 rfl) ?_
      refine va_get (D := gD G) (ci := 1) (v := .int dc) (C := RX1) (T := TX1) (N := 6) hx hb hts k_X1_conflictsWith_inX1 hown hK hP 0 rfl rfl 3 (by decide) (hts _ k_X1_conflictsWith_f21) (fun _ h9 => h9) rfl dX1_conflictsWith_6 ?_
      refine lv_icmp_ge (tgt := 34) hx hb dX1_conflictsWith_9 (by decide) (fun c1 => ?_) (fun c1 => ?_)
      · have hw := hw.1 c1
        refine lv_iload_n hx hb dX1_conflictsWith_34 rfl (lv_at hl 2 rfl) ?_
        exact fin_i () hx hb hr hlocks hK hS hP hD hw dX1_conflictsWith_35
      · have hw := hw.2 c1
        refine lv_aload_n hx hb dX1_conflictsWith_12 rfl (lv_at hl 0 rfl) ?_
        refine lv_iload_n hx hb dX1_conflictsWith_13 rfl (lv_at hl 1 rfl) ?_
        refine lv_iload_n hx hb dX1_conflictsWith_14 rfl (lv_at hl 3 rfl) ?_
        refine kcR_i (kr_V [] ⟨hx, hb, hml, hown, hts⟩ (cn_X1_clash l G qd qdb qde qdf db de df dc dp dk x1 x3 hw H.size) (cwV 2 hts gX1_conflictsWith_X1_clash rfl rfl rfl (by decide +kernel) ⟨Nat.le_of_ble_eq_true rfl, Nat.le_of_ble_eq_true rfl⟩) hK hG hP hD hS hA [0, 1, 2, 3] rfl rfl 1 0 rfl rfl rfl hl.1 rfl (Nat.le_of_ble_eq_true rfl) dX1_conflictsWith_15 ⟨Nat.le_of_ble_eq_true rfl, Nat.le_of_ble_eq_true rfl⟩) hP hD hS hA [0, 1, 2, 3] rfl (fun r2 u H locs hw hP hS => ?_)
        try dsimp only at hw
        obtain ⟨hz_r2, hw⟩ := hw
        refine lv_if_eq (tgt := 28) hx hb dX1_conflictsWith_18 (by decide) (fun c3 => ?_) (fun c3 => ?_)
        · have hw := hw.1 c3
          refine lv_iinc (v := (x3 + 1)) (lv' := [(3, .int (x3 + 1)), (0, .ref qd), (1, .int x1), (2, .int x2)]) hx hb dX1_conflictsWith_28 hl (k := 3) rfl rfl (by decide) rfl (fun ls hl => ?_)
          refine lv_goto (tgt := 4) hx hb dX1_conflictsWith_31 (by decide) ?_
          exact ih x1 x2 (x3 + 1) _ _ _ hP hD hS (lv_sub hl [1, 2, 3, 0] rfl) hw
        · have hw := hw.2 c3
          refine lv_iload_n hx hb dX1_conflictsWith_21 rfl (lv_at hl 2 rfl) ?_
          refine lv_iload_n hx hb dX1_conflictsWith_22 rfl (lv_at hl 3 rfl) ?_
          refine kcR_i (kr_SN [.int x2] ⟨hx, hb, hml, hown, hts⟩ (cn_X5_bit l G x3 hw H.size) ⟨(va_cnB 1 hts gX1_conflictsWith_X5_bit_n35 rfl rfl rfl (hG.1 (RX1, 35, yX5_bit) (by decide +kernel)) (hts (.initialized RX5) (by decide +kernel)) (by decide +kernel) ⟨Nat.le_of_ble_eq_true rfl, Nat.le_of_ble_eq_true rfl⟩), hts (.static yX5_bit) (by decide +kernel)⟩ hK hG hP hD hS hA [] rfl rfl rfl hl.1 rfl (Nat.le_of_ble_eq_true rfl) dX1_conflictsWith_23 ⟨Nat.le_of_ble_eq_true rfl, Nat.le_of_ble_eq_true rfl⟩) hP hD hS hA [] rfl (fun r4 u H locs hw hP hS => ?_)
          try dsimp only at hw
          refine lv_ior hx hb dX1_conflictsWith_26 ?_
          refine lv_istore_n (lv' := [(2, .int (x2 ||| r4)), (0, .ref qd), (1, .int x1), (3, .int x3)]) hx hb dX1_conflictsWith_27 rfl hl (by decide) rfl (fun ls hl => ?_)
          refine lv_iinc (v := (x3 + 1)) (lv' := [(3, .int (x3 + 1)), (2, .int (x2 ||| r4)), (0, .ref qd), (1, .int x1)]) hx hb dX1_conflictsWith_28 hl (k := 3) rfl rfl (by decide) rfl (fun ls hl => ?_)
          refine lv_goto (tgt := 4) hx hb dX1_conflictsWith_31 (by decide) ?_
          exact ih x1 (x2 ||| r4) (x3 + 1) _ _ _ hP hD hS (lv_sub hl [2, 3, 1, 0] rfl) hw
  unfold wn_X1_conflictsWith at hw
  refine lv_iconst (v := 0) hx hb dX1_conflictsWith_0 (by decide) ?_
  refine lv_istore_n (lv' := [(2, .int (0 : Int32)), (0, .ref qd), (1, .int a1)]) hx hb dX1_conflictsWith_1 rfl hl (by decide) rfl (fun ls hl => ?_)
  refine lv_iconst (v := 0) hx hb dX1_conflictsWith_2 (by decide) ?_
  refine lv_istore_n (lv' := [(3, .int (0 : Int32)), (2, .int (0 : Int32)), (0, .ref qd), (1, .int a1)]) hx hb dX1_conflictsWith_3 rfl hl (by decide) rfl (fun ls hl => ?_)
  obtain ⟨n4, hw⟩ := hw
  exact J4 n4 a1 (0 : Int32) (0 : Int32) _ _ _ hP hD hS (lv_sub hl [2, 3, 1, 0] rfl) hw
abbrev w0_X1_copyRehearsal_self (G : mG) (qd : Nat) (qdb : Nat) (qde : Nat) (qdf : Nat) (db : Nat → Int32) (de : Nat → Int32) (df : Nat → Int32) (dc : Int32) (dp : Int32) (dk : Int32) : va_W := [(qd, .inr (1, [.ref qdb, .ref qde, .ref qdf, .int dc, .int dp, .int dk])), (qdb, .inl (gI G, (14, .inl db))), (qde, .inl (gI G, (14, .inl de))), (qdf, .inl (gI G, (14, .inl df)))]
set_option maxRecDepth 100000 in
theorem k_X1_copyRehearsal_inX1 : ∀ w ∈ u_ws RX1 TX1 6, w ∈ wsX1_copyRehearsal := by decide +kernel
set_option maxRecDepth 100000 in
theorem k_X1_copyRehearsal_f9 : Cond.fieldLink RX1 9 "RehearsalRoom$Day" "begins" "[I" ∈ wsX1_copyRehearsal := by decide +kernel
set_option maxRecDepth 100000 in
theorem k_X1_copyRehearsal_f15 : Cond.fieldLink RX1 15 "RehearsalRoom$Day" "ends" "[I" ∈ wsX1_copyRehearsal := by decide +kernel
set_option maxRecDepth 100000 in
theorem k_X1_copyRehearsal_f18 : Cond.fieldLink RX1 18 "RehearsalRoom$Day" "fames" "[I" ∈ wsX1_copyRehearsal := by decide +kernel
set_option maxHeartbeats 8000000 in
set_option maxRecDepth 100000 in
theorem cn_X1_copyRehearsal_self (l : Launch) (G : mG) (qd : Nat) (qdb : Nat) (qde : Nat) (qdf : Nat) (db : Nat → Int32) (de : Nat → Int32) (df : Nat → Int32) (dc : Int32) (dp : Int32) (dk : Int32) (a2 : Int32) (a3 : Int32) {Q : (Nat → Int32) → (Nat → Int32) → (Nat → Int32) → Prop} (hw : wn_X1_copyRehearsal_self db de df dc dp dk a2 a3 Q) (sz : Nat) :
    Met l yX1_copyRehearsal wsX1_copyRehearsal ({ frames := 0, cells := 0, slots := 0, locals := 0 } : Room) (va_Pc [.ref qd, .ref qd, .int a2, .int a3] (mPre G (w0_X1_copyRehearsal_self G qd qdb qde qdf db de df dc dp dk) sz)) (va_Qv (fun (u : (Nat → Int32) × (Nat → Int32) × (Nat → Int32)) => Q u.1 u.2.1 u.2.2) (mBk G (va_A (w0_X1_copyRehearsal_self G qd qdb qde qdf db de df dc dp dk) sz) (fun (u : (Nat → Int32) × (Nat → Int32) × (Nat → Int32)) => (w0_X1_copyRehearsal_self G qd qdb qde qdf u.1 u.2.1 u.2.2 dc dp dk))) (va_A (w0_X1_copyRehearsal_self G qd qdb qde qdf db de df dc dp dk) sz)) 0 0 (va_A (w0_X1_copyRehearsal_self G qd qdb qde qdf db de df dc dp dk) sz) := by
  refine ms_v (cc := cX1_copyRehearsal) (maxL := 4) (ret := none) (post := (fun (u : (Nat → Int32) × (Nat → Int32) × (Nat → Int32)) => Q u.1 u.2.1 u.2.2)) (w1 := (fun (u : (Nat → Int32) × (Nat → Int32) × (Nat → Int32)) => (w0_X1_copyRehearsal_self G qd qdb qde qdf u.1 u.2.1 u.2.2 dc dp dk))) (by decide) rfl (Nat.le_of_ble_eq_true rfl) ?_ sz
  intro p e s m below meth c A ls H locs hx hb hr hml hown hts hlocks hK hG hP hD hS hA hl
  have hown : s.vm.findClass RX1 = some m.cls := hown
  have hl : lv_has ls 4 [(0, .ref qd), (1, .ref qd), (2, .int a2), (3, .int a3)] := hl
  unfold wn_X1_copyRehearsal_self at hw
  refine lv_aload_n hx hb dX1_copyRehearsal_0 rfl (lv_at hl 0 rfl) ?_
  refine va_get (D := gD G) (ci := 1) (v := .ref qdb) (C := RX1) (T := TX1) (N := 6) hx hb hts k_X1_copyRehearsal_inX1 hown hK hP 0 rfl rfl 0 (by decide) (hts _ k_X1_copyRehearsal_f9) (fun _ h9 => h9) rfl dX1_copyRehearsal_1 ?_
  refine lv_iload_n hx hb dX1_copyRehearsal_4 rfl (lv_at hl 3 rfl) ?_
  refine lv_aload_n hx hb dX1_copyRehearsal_5 rfl (lv_at hl 1 rfl) ?_
  refine va_get (D := gD G) (ci := 1) (v := .ref qdb) (C := RX1) (T := TX1) (N := 6) hx hb hts k_X1_copyRehearsal_inX1 hown hK hP 0 rfl rfl 0 (by decide) (hts _ k_X1_copyRehearsal_f9) (fun _ h9 => h9) rfl dX1_copyRehearsal_6 ?_
  refine lv_iload_n hx hb dX1_copyRehearsal_9 rfl (lv_at hl 2 rfl) ?_
  obtain ⟨h1, hw⟩ := hw
  refine va_iald hx hb hK hP 1 0 rfl rfl h1 dX1_copyRehearsal_10 ?_
  obtain ⟨h2, hw⟩ := hw
  refine va_iast hx hb hK hP hD hS 1 0 rfl rfl h2 dX1_copyRehearsal_11 (fun H locs hP hD hS => ?_)
  have hP : va_P (gD G) vwCl (w0_X1_copyRehearsal_self G qd qdb qde qdf (upd db a3.toNatClampNeg (db a2.toNatClampNeg)) de df dc dp dk) H := hP
  have hD : va_D A (w0_X1_copyRehearsal_self G qd qdb qde qdf (upd db a3.toNatClampNeg (db a2.toNatClampNeg)) de df dc dp dk) := hD
  refine lv_aload_n hx hb dX1_copyRehearsal_12 rfl (lv_at hl 0 rfl) ?_
  refine va_get (D := gD G) (ci := 1) (v := .ref qde) (C := RX1) (T := TX1) (N := 6) hx hb hts k_X1_copyRehearsal_inX1 hown hK hP 0 rfl rfl 1 (by decide) (hts _ k_X1_copyRehearsal_f15) (fun _ h9 => h9) rfl dX1_copyRehearsal_13 ?_
  refine lv_iload_n hx hb dX1_copyRehearsal_16 rfl (lv_at hl 3 rfl) ?_
  refine lv_aload_n hx hb dX1_copyRehearsal_17 rfl (lv_at hl 1 rfl) ?_
  refine va_get (D := gD G) (ci := 1) (v := .ref qde) (C := RX1) (T := TX1) (N := 6) hx hb hts k_X1_copyRehearsal_inX1 hown hK hP 0 rfl rfl 1 (by decide) (hts _ k_X1_copyRehearsal_f15) (fun _ h9 => h9) rfl dX1_copyRehearsal_18 ?_
  refine lv_iload_n hx hb dX1_copyRehearsal_21 rfl (lv_at hl 2 rfl) ?_
  obtain ⟨h3, hw⟩ := hw
  refine va_iald hx hb hK hP 2 0 rfl rfl h3 dX1_copyRehearsal_22 ?_
  obtain ⟨h4, hw⟩ := hw
  refine va_iast hx hb hK hP hD hS 2 0 rfl rfl h4 dX1_copyRehearsal_23 (fun H locs hP hD hS => ?_)
  have hP : va_P (gD G) vwCl (w0_X1_copyRehearsal_self G qd qdb qde qdf (upd db a3.toNatClampNeg (db a2.toNatClampNeg)) (upd de a3.toNatClampNeg (de a2.toNatClampNeg)) df dc dp dk) H := hP
  have hD : va_D A (w0_X1_copyRehearsal_self G qd qdb qde qdf (upd db a3.toNatClampNeg (db a2.toNatClampNeg)) (upd de a3.toNatClampNeg (de a2.toNatClampNeg)) df dc dp dk) := hD
  refine lv_aload_n hx hb dX1_copyRehearsal_24 rfl (lv_at hl 0 rfl) ?_
  refine va_get (D := gD G) (ci := 1) (v := .ref qdf) (C := RX1) (T := TX1) (N := 6) hx hb hts k_X1_copyRehearsal_inX1 hown hK hP 0 rfl rfl 2 (by decide) (hts _ k_X1_copyRehearsal_f18) (fun _ h9 => h9) rfl dX1_copyRehearsal_25 ?_
  refine lv_iload_n hx hb dX1_copyRehearsal_28 rfl (lv_at hl 3 rfl) ?_
  refine lv_aload_n hx hb dX1_copyRehearsal_29 rfl (lv_at hl 1 rfl) ?_
  refine va_get (D := gD G) (ci := 1) (v := .ref qdf) (C := RX1) (T := TX1) (N := 6) hx hb hts k_X1_copyRehearsal_inX1 hown hK hP 0 rfl rfl 2 (by decide) (hts _ k_X1_copyRehearsal_f18) (fun _ h9 => h9) rfl dX1_copyRehearsal_30 ?_
  refine lv_iload_n hx hb dX1_copyRehearsal_33 rfl (lv_at hl 2 rfl) ?_
  obtain ⟨h5, hw⟩ := hw
  refine va_iald hx hb hK hP 3 0 rfl rfl h5 dX1_copyRehearsal_34 ?_
  obtain ⟨h6, hw⟩ := hw
  refine va_iast hx hb hK hP hD hS 3 0 rfl rfl h6 dX1_copyRehearsal_35 (fun H locs hP hD hS => ?_)
  have hP : va_P (gD G) vwCl (w0_X1_copyRehearsal_self G qd qdb qde qdf (upd db a3.toNatClampNeg (db a2.toNatClampNeg)) (upd de a3.toNatClampNeg (de a2.toNatClampNeg)) (upd df a3.toNatClampNeg (df a2.toNatClampNeg)) dc dp dk) H := hP
  have hD : va_D A (w0_X1_copyRehearsal_self G qd qdb qde qdf (upd db a3.toNatClampNeg (db a2.toNatClampNeg)) (upd de a3.toNatClampNeg (de a2.toNatClampNeg)) (upd df a3.toNatClampNeg (df a2.toNatClampNeg)) dc dp dk) := hD
  exact fin_v ((upd db a3.toNatClampNeg (db a2.toNatClampNeg)), (upd de a3.toNatClampNeg (de a2.toNatClampNeg)), (upd df a3.toNatClampNeg (df a2.toNatClampNeg))) hx hb hr hlocks hK hS hP hD hw dX1_copyRehearsal_36
abbrev w0_X1_takeOut (G : mG) (qd : Nat) (qdb : Nat) (qde : Nat) (qdf : Nat) (db : Nat → Int32) (de : Nat → Int32) (df : Nat → Int32) (dc : Int32) (dp : Int32) (dk : Int32) : va_W := [(qd, .inr (1, [.ref qdb, .ref qde, .ref qdf, .int dc, .int dp, .int dk])), (qdb, .inl (gI G, (14, .inl db))), (qde, .inl (gI G, (14, .inl de))), (qdf, .inl (gI G, (14, .inl df)))]
set_option maxRecDepth 100000 in
theorem k_X1_takeOut_inX1 : ∀ w ∈ u_ws RX1 TX1 6, w ∈ wsX1_takeOut := by decide +kernel
set_option maxRecDepth 100000 in
theorem k_X1_takeOut_f21 : Cond.fieldLink RX1 21 "RehearsalRoom$Day" "count" "I" ∈ wsX1_takeOut := by decide +kernel
set_option maxRecDepth 100000 in
theorem k_X1_takeOut_f28 : Cond.fieldLink RX1 28 "RehearsalRoom$Day" "bookings" "I" ∈ wsX1_takeOut := by decide +kernel
set_option maxHeartbeats 8000000 in
set_option maxRecDepth 100000 in
theorem cn_X1_takeOut (l : Launch) (G : mG) (qd : Nat) (qdb : Nat) (qde : Nat) (qdf : Nat) (db : Nat → Int32) (de : Nat → Int32) (df : Nat → Int32) (dc : Int32) (dp : Int32) (dk : Int32) (a1 : Int32) {Q : (Nat → Int32) → (Nat → Int32) → (Nat → Int32) → Int32 → Int32 → Prop} (hw : wn_X1_takeOut db de df dc dp dk a1 Q) (sz : Nat) :
    Met l yX1_takeOut wsX1_takeOut ({ frames := 1, cells := 0, slots := 0, locals := 23 } : Room) (va_Pc [.ref qd, .int a1] (mPre G (w0_X1_takeOut G qd qdb qde qdf db de df dc dp dk) sz)) (va_Qv (fun (u : (Nat → Int32) × (Nat → Int32) × (Nat → Int32) × Int32 × Int32) => Q u.1 u.2.1 u.2.2.1 u.2.2.2.1 u.2.2.2.2) (mBk G (va_A (w0_X1_takeOut G qd qdb qde qdf db de df dc dp dk) sz) (fun (u : (Nat → Int32) × (Nat → Int32) × (Nat → Int32) × Int32 × Int32) => (w0_X1_takeOut G qd qdb qde qdf u.1 u.2.1 u.2.2.1 u.2.2.2.1 dp u.2.2.2.2))) (va_A (w0_X1_takeOut G qd qdb qde qdf db de df dc dp dk) sz)) 0 0 (va_A (w0_X1_takeOut G qd qdb qde qdf db de df dc dp dk) sz) := by
  refine ms_v (cc := cX1_takeOut) (maxL := 4) (ret := none) (post := (fun (u : (Nat → Int32) × (Nat → Int32) × (Nat → Int32) × Int32 × Int32) => Q u.1 u.2.1 u.2.2.1 u.2.2.2.1 u.2.2.2.2)) (w1 := (fun (u : (Nat → Int32) × (Nat → Int32) × (Nat → Int32) × Int32 × Int32) => (w0_X1_takeOut G qd qdb qde qdf u.1 u.2.1 u.2.2.1 u.2.2.2.1 dp u.2.2.2.2))) (by decide) rfl (Nat.le_of_ble_eq_true rfl) ?_ sz
  intro p e s m below meth c A ls H locs hx hb hr hml hown hts hlocks hK hG hP hD hS hA hl
  have hown : s.vm.findClass RX1 = some m.cls := hown
  have hl : lv_has ls 4 [(0, .ref qd), (1, .int a1)] := hl
  have J4 : ∀ (n : Nat) (db : Nat → Int32) (de : Nat → Int32) (df : Nat → Int32) (dc : Int32) (dk : Int32) (x1 : Int32) (x2 : Int32) (H : Heap) (locs : List Loc) (ls : Array Slot), va_P (gD G) vwCl (w0_X1_takeOut G qd qdb qde qdf db de df dc dp dk) H → va_D A (w0_X1_takeOut G qd qdb qde qdf db de df dc dp dk) → va_S A s.heap H locs → lv_has ls 4 [(0, .ref qd), (1, .int x1), (2, .int x2)] → wl_n_X1_takeOut_4 dp Q n db de df dc dk x1 x2 → W p l e ({ frames := 1, cells := 0, slots := 0, locals := 23 } : Room) s m ([.ref qd, .int a1] : List Value).toArray below meth c H locs 0 0 (MQ below (va_Qv (fun (u : (Nat → Int32) × (Nat → Int32) × (Nat → Int32) × Int32 × Int32) => Q u.1 u.2.1 u.2.2.1 u.2.2.2.1 u.2.2.2.2) (mBk G A (fun (u : (Nat → Int32) × (Nat → Int32) × (Nat → Int32) × Int32 × Int32) => (w0_X1_takeOut G qd qdb qde qdf u.1 u.2.1 u.2.2.1 u.2.2.2.1 dp u.2.2.2.2))) A) ([.ref qd, .int a1] : List Value).toArray s 0 0 A) (F0 m 4 ls []) := by
    intro n
    induction n with
    | zero => intro db de df dc dk x1 x2 H locs ls hP hD hS hl hw; exact False.elim hw
    | succ n ih =>
      intro db de df dc dk x1 x2 H locs ls hP hD hS hl hw
      rw [wl_n_X1_takeOut_4] at hw
      refine lv_iload_n hx hb dX1_takeOut_4 rfl (lv_at hl 2 rfl) ?_
      refine lv_aload_n hx hb dX1_takeOut_5 rfl (lv_at hl 0 rfl) ?_
      refine va_get (D := gD G) (ci := 1) (v := .int dc) (C := RX1) (T := TX1) (N := 6) hx hb hts k_X1_takeOut_inX1 hown hK hP 0 rfl rfl 3 (by decide) (hts _ k_X1_takeOut_f21) (fun _ h9 => h9) rfl dX1_takeOut_6 ?_
      refine lv_icmp_ge (tgt := 27) hx hb dX1_takeOut_9 (by decide) (fun c1 => ?_) (fun c1 => ?_)
      · have hw := hw.1 c1
        refine lv_aload_n hx hb dX1_takeOut_27 rfl (lv_at hl 0 rfl) ?_
        refine va_get (D := gD G) (ci := 1) (v := .int dk) (C := RX1) (T := TX1) (N := 6) hx hb hts k_X1_takeOut_inX1 hown hK hP 0 rfl rfl 5 (by decide) (hts _ k_X1_takeOut_f28) (fun _ h9 => h9) rfl dX1_takeOut_28 ?_
        refine lv_iload_n hx hb dX1_takeOut_31 rfl (lv_at hl 1 rfl) ?_
        refine kcR_i (kr_SN [.int dk] ⟨hx, hb, hml, hown, hts⟩ (cn_X5_bit l G x1 hw H.size) ⟨(va_cnB 1 hts gX1_takeOut_X5_bit_n35 rfl rfl rfl (hG.1 (RX1, 35, yX5_bit) (by decide +kernel)) (hts (.initialized RX5) (by decide +kernel)) (by decide +kernel) ⟨Nat.le_of_ble_eq_true rfl, Nat.le_of_ble_eq_true rfl⟩), hts (.static yX5_bit) (by decide +kernel)⟩ hK hG hP hD hS hA [] rfl rfl rfl hl.1 rfl (Nat.le_of_ble_eq_true rfl) dX1_takeOut_32 ⟨Nat.le_of_ble_eq_true rfl, Nat.le_of_ble_eq_true rfl⟩) hP hD hS hA [] rfl (fun r2 u H locs hw hP hS => ?_)
        try dsimp only at hw
        refine lv_iconst (v := 1) hx hb dX1_takeOut_35 (by decide) ?_
        refine lv_isub hx hb dX1_takeOut_36 ?_
        refine lv_iand hx hb dX1_takeOut_37 ?_
        refine lv_istore_n (lv' := [(2, .int (dk &&& (r2 - (1 : Int32)))), (0, .ref qd), (1, .int x1)]) hx hb dX1_takeOut_38 rfl hl (by decide) rfl (fun ls hl => ?_)
        refine lv_aload_n hx hb dX1_takeOut_39 rfl (lv_at hl 1 rfl) ?_
        refine va_get (D := gD G) (ci := 1) (v := .int dk) (C := RX1) (T := TX1) (N := 6) hx hb hts k_X1_takeOut_inX1 hown hK hP 0 rfl rfl 5 (by decide) (hts _ k_X1_takeOut_f28) (fun _ h9 => h9) rfl dX1_takeOut_40 ?_
        refine lv_iload_n hx hb dX1_takeOut_43 rfl (lv_at hl 2 rfl) ?_
        refine lv_iconst (v := 1) hx hb dX1_takeOut_44 (by decide) ?_
        refine lv_iadd hx hb dX1_takeOut_45 ?_
        refine lv_ishr hx hb dX1_takeOut_46 ?_
        refine lv_iload_n hx hb dX1_takeOut_47 rfl (lv_at hl 2 rfl) ?_
        refine lv_ishl hx hb dX1_takeOut_48 ?_
        refine lv_istore_n (lv' := [(3, .int ((dk >>> ((x1 + (1 : Int32)) &&& 31)) <<< (x1 &&& 31))), (2, .int (dk &&& (r2 - (1 : Int32)))), (0, .ref qd), (1, .int x1)]) hx hb dX1_takeOut_49 rfl hl (by decide) rfl (fun ls hl => ?_)
        refine lv_aload_n hx hb dX1_takeOut_50 rfl (lv_at hl 2 rfl) ?_
        refine lv_iload_n hx hb dX1_takeOut_51 rfl (lv_at hl 1 rfl) ?_
        refine lv_iload_n hx hb dX1_takeOut_52 rfl (lv_at hl 0 rfl) ?_
        refine lv_ior hx hb dX1_takeOut_53 ?_
        refine va_put (D := gD G) (ci := 1) (v := .int ((dk &&& (r2 - (1 : Int32))) ||| ((dk >>> ((x1 + (1 : Int32)) &&& 31)) <<< (x1 &&& 31)))) (ty := .int) (C := RX1) (T := TX1) (N := 6) hx hb hts k_X1_takeOut_inX1 tyX1 tyX1_ok nmX1 hown hK hP hD hS 0 rfl rfl 5 (by decide) (hts _ k_X1_takeOut_f28) (fun _ h9 => h9) rfl (by decide +kernel) rfl rfl (Nat.le_of_ble_eq_true rfl) dX1_takeOut_54 (fun H locs hP hD hS => ?_)
        have hP : va_P (gD G) vwCl (w0_X1_takeOut G qd qdb qde qdf db de df dc dp ((dk &&& (r2 - (1 : Int32))) ||| ((dk >>> ((x1 + (1 : Int32)) &&& 31)) <<< (x1 &&& 31)))) H := hP
        have hD : va_D A (w0_X1_takeOut G qd qdb qde qdf db de df dc dp ((dk &&& (r2 - (1 : Int32))) ||| ((dk >>> ((x1 + (1 : Int32)) &&& 31)) <<< (x1 &&& 31)))) := hD
        refine lv_aload_n hx hb dX1_takeOut_57 rfl (lv_at hl 2 rfl) ?_
        refine lv_dup hx hb dX1_takeOut_58 rfl ?_
        refine va_get (D := gD G) (ci := 1) (v := .int dc) (C := RX1) (T := TX1) (N := 6) hx hb hts k_X1_takeOut_inX1 hown hK hP 0 rfl rfl 3 (by decide) (hts _ k_X1_takeOut_f21) (fun _ h9 => h9) rfl dX1_takeOut_59 ?_
        refine lv_iconst (v := 1) hx hb dX1_takeOut_62 (by decide) ?_
        refine lv_isub hx hb dX1_takeOut_63 ?_
        refine va_put (D := gD G) (ci := 1) (v := .int (dc - (1 : Int32))) (ty := .int) (C := RX1) (T := TX1) (N := 6) hx hb hts k_X1_takeOut_inX1 tyX1 tyX1_ok nmX1 hown hK hP hD hS 0 rfl rfl 3 (by decide) (hts _ k_X1_takeOut_f21) (fun _ h9 => h9) rfl (by decide +kernel) rfl rfl (Nat.le_of_ble_eq_true rfl) dX1_takeOut_64 (fun H locs hP hD hS => ?_)
        have hP : va_P (gD G) vwCl (w0_X1_takeOut G qd qdb qde qdf db de df (dc - (1 : Int32)) dp ((dk &&& (r2 - (1 : Int32))) ||| ((dk >>> ((x1 + (1 : Int32)) &&& 31)) <<< (x1 &&& 31)))) H := hP
        have hD : va_D A (w0_X1_takeOut G qd qdb qde qdf db de df (dc - (1 : Int32)) dp ((dk &&& (r2 - (1 : Int32))) ||| ((dk >>> ((x1 + (1 : Int32)) &&& 31)) <<< (x1 &&& 31)))) := hD
        exact fin_v (db, de, df, (dc - (1 : Int32)), ((dk &&& (r2 - (1 : Int32))) ||| ((dk >>> ((x1 + (1 : Int32)) &&& 31)) <<< (x1 &&& 31)))) hx hb hr hlocks hK hS hP hD hw dX1_takeOut_67
      · have hw := hw.2 c1
        refine lv_aload_n hx hb dX1_takeOut_12 rfl (lv_at hl 0 rfl) ?_
        refine lv_aload_n hx hb dX1_takeOut_13 rfl (lv_at hl 0 rfl) ?_
        refine lv_iload_n hx hb dX1_takeOut_14 rfl (lv_at hl 2 rfl) ?_
        refine lv_iload_n hx hb dX1_takeOut_15 rfl (lv_at hl 2 rfl) ?_
        refine lv_iconst (v := 1) hx hb dX1_takeOut_16 (by decide) ?_
        refine lv_isub hx hb dX1_takeOut_17 ?_
        refine kc_v (kr_V [] ⟨hx, hb, hml, hown, hts⟩ (cn_X1_copyRehearsal_self l G qd qdb qde qdf db de df dc dp dk x2 (x2 - (1 : Int32)) hw H.size) (cwV 3 hts gX1_takeOut_X1_copyRehearsal rfl rfl rfl (by decide +kernel) ⟨Nat.le_of_ble_eq_true rfl, Nat.le_of_ble_eq_true rfl⟩) hK hG hP hD hS hA [0, 1, 2, 3] rfl rfl 1 0 rfl rfl rfl hl.1 rfl (Nat.le_of_ble_eq_true rfl) dX1_takeOut_18 ⟨Nat.le_of_ble_eq_true rfl, Nat.le_of_ble_eq_true rfl⟩) hP hD hS hA [0, 1, 2, 3] [] rfl rfl rfl (by decide) (fun u H locs hw hP hD hS => ?_)
        obtain ⟨db_3, de_4, df_5⟩ := u
        try dsimp only at hw
        have hP := hP.sub (ws' := (w0_X1_takeOut G qd qdb qde qdf db_3 de_4 df_5 dc dp dk)) [0, 1, 2, 3] rfl
        have hD := hD.sub (ws' := (w0_X1_takeOut G qd qdb qde qdf db_3 de_4 df_5 dc dp dk)) [0, 1, 2, 3] rfl rfl
        refine lv_iinc (v := (x2 + 1)) (lv' := [(2, .int (x2 + 1)), (0, .ref qd), (1, .int x1)]) hx hb dX1_takeOut_21 hl (k := 2) rfl rfl (by decide) rfl (fun ls hl => ?_)
        refine lv_goto (tgt := 4) hx hb dX1_takeOut_24 (by decide) ?_
        exact ih db_3 de_4 df_5 dc dk x1 (x2 + 1) _ _ _ hP hD hS (lv_sub hl [1, 2, 0] rfl) hw
  unfold wn_X1_takeOut at hw
  refine lv_iload_n hx hb dX1_takeOut_0 rfl (lv_at hl 1 rfl) ?_
  refine lv_iconst (v := 1) hx hb dX1_takeOut_1 (by decide) ?_
  refine lv_iadd hx hb dX1_takeOut_2 ?_
  refine lv_istore_n (lv' := [(2, .int (a1 + (1 : Int32))), (0, .ref qd), (1, .int a1)]) hx hb dX1_takeOut_3 rfl hl (by decide) rfl (fun ls hl => ?_)
  obtain ⟨n4, hw⟩ := hw
  exact J4 n4 db de df dc dk a1 (a1 + (1 : Int32)) _ _ _ hP hD hS (lv_sub hl [1, 2, 0] rfl) hw
abbrev w0_X5_isIn (G : mG) : va_W := []
set_option maxHeartbeats 8000000 in
set_option maxRecDepth 100000 in
theorem cn_X5_isIn (l : Launch) (G : mG) (a0 : Int32) (a1 : Int32) {Q : Int32 → Prop} (hw : wn_X5_isIn a0 a1 Q) (sz : Nat) :
    Met l yX5_isIn wsX5_isIn ({ frames := 1, cells := 0, slots := 0, locals := 20 } : Room) (va_Pc [.int a0, .int a1] (mPre G (w0_X5_isIn G) sz)) (va_Qi (fun (r : Int32) (u : Unit) => (r = 0 ∨ r = 1) ∧ Q r) (mBk G (va_A (w0_X5_isIn G) sz) (fun (u : Unit) => (w0_X5_isIn G))) (va_A (w0_X5_isIn G) sz)) 0 0 (va_A (w0_X5_isIn G) sz) := by
  refine ms_i (cc := cX5_isIn) (maxL := 2) (ret := some .boolean) (post := (fun (r : Int32) (u : Unit) => (r = 0 ∨ r = 1) ∧ Q r)) (w1 := (fun (u : Unit) => (w0_X5_isIn G))) (by decide) rfl (Nat.le_of_ble_eq_true rfl) ?_ sz
  intro p e s m below meth c A ls H locs hx hb hr hml hown hts hlocks hK hG hP hD hS hA hl
  have hown : s.vm.findClass RX5 = some m.cls := hown
  have hl : lv_has ls 2 [(0, .int a0), (1, .int a1)] := hl
  unfold wn_X5_isIn at hw
  refine lv_iload_n hx hb dX5_isIn_0 rfl (lv_at hl 0 rfl) ?_
  refine lv_iload_n hx hb dX5_isIn_1 rfl (lv_at hl 1 rfl) ?_
  refine kcR_i (kr_S [.int a0] ⟨hx, hb, hml, hown, hts⟩ (cn_X5_bit l G a1 hw H.size) (va_cwS 1 hts gX5_isIn_X5_bit rfl rfl rfl (by decide +kernel) ⟨Nat.le_of_ble_eq_true rfl, Nat.le_of_ble_eq_true rfl⟩) hK hG hP hD hS hA [] rfl rfl rfl hl.1 rfl (Nat.le_of_ble_eq_true rfl) dX5_isIn_2 ⟨Nat.le_of_ble_eq_true rfl, Nat.le_of_ble_eq_true rfl⟩) hP hD hS hA [] rfl (fun r1 u H locs hw hP hS => ?_)
  try dsimp only at hw
  refine lv_iand hx hb dX5_isIn_5 ?_
  refine lv_if_eq (tgt := 13) hx hb dX5_isIn_6 (by decide) (fun c2 => ?_) (fun c2 => ?_)
  · have hw := hw.1 c2
    refine lv_iconst (v := 0) hx hb dX5_isIn_13 (by decide) ?_
    exact fin_z () hx hb hr (nz (Or.inl rfl)) hlocks hK hS hP hD ⟨(Or.inl rfl), hw⟩ dX5_isIn_14
  · have hw := hw.2 c2
    refine lv_iconst (v := 1) hx hb dX5_isIn_9 (by decide) ?_
    refine lv_goto (tgt := 14) hx hb dX5_isIn_10 (by decide) ?_
    exact fin_z () hx hb hr (nz (Or.inr rfl)) hlocks hK hS hP hD ⟨(Or.inr rfl), hw⟩ dX5_isIn_14
abbrev w0_X1_fameOfSet (G : mG) (qd : Nat) (qdb : Nat) (qde : Nat) (qdf : Nat) (db : Nat → Int32) (de : Nat → Int32) (df : Nat → Int32) (dc : Int32) (dp : Int32) (dk : Int32) : va_W := [(qd, .inr (1, [.ref qdb, .ref qde, .ref qdf, .int dc, .int dp, .int dk])), (qdb, .inl (gI G, (14, .inl db))), (qde, .inl (gI G, (14, .inl de))), (qdf, .inl (gI G, (14, .inl df)))]
set_option maxRecDepth 100000 in
theorem k_X1_fameOfSet_inX1 : ∀ w ∈ u_ws RX1 TX1 6, w ∈ wsX1_fameOfSet := by decide +kernel
set_option maxRecDepth 100000 in
theorem k_X1_fameOfSet_f21 : Cond.fieldLink RX1 21 "RehearsalRoom$Day" "count" "I" ∈ wsX1_fameOfSet := by decide +kernel
set_option maxRecDepth 100000 in
theorem k_X1_fameOfSet_f18 : Cond.fieldLink RX1 18 "RehearsalRoom$Day" "fames" "[I" ∈ wsX1_fameOfSet := by decide +kernel
set_option maxHeartbeats 8000000 in
set_option maxRecDepth 100000 in
theorem cn_X1_fameOfSet (l : Launch) (G : mG) (qd : Nat) (qdb : Nat) (qde : Nat) (qdf : Nat) (db : Nat → Int32) (de : Nat → Int32) (df : Nat → Int32) (dc : Int32) (dp : Int32) (dk : Int32) (a1 : Int32) {Q : Int32 → Prop} (hw : wn_X1_fameOfSet db de df dc dp dk a1 Q) (sz : Nat) :
    Met l yX1_fameOfSet wsX1_fameOfSet ({ frames := 2, cells := 0, slots := 0, locals := 41 } : Room) (va_Pc [.ref qd, .int a1] (mPre G (w0_X1_fameOfSet G qd qdb qde qdf db de df dc dp dk) sz)) (va_Qi (fun (r : Int32) (u : Unit) => Q r) (mBk G (va_A (w0_X1_fameOfSet G qd qdb qde qdf db de df dc dp dk) sz) (fun (u : Unit) => (w0_X1_fameOfSet G qd qdb qde qdf db de df dc dp dk))) (va_A (w0_X1_fameOfSet G qd qdb qde qdf db de df dc dp dk) sz)) 0 0 (va_A (w0_X1_fameOfSet G qd qdb qde qdf db de df dc dp dk) sz) := by
  refine ms_i (cc := cX1_fameOfSet) (maxL := 4) (ret := some .int) (post := (fun (r : Int32) (u : Unit) => Q r)) (w1 := (fun (u : Unit) => (w0_X1_fameOfSet G qd qdb qde qdf db de df dc dp dk))) (by decide) rfl (Nat.le_of_ble_eq_true rfl) ?_ sz
  intro p e s m below meth c A ls H locs hx hb hr hml hown hts hlocks hK hG hP hD hS hA hl
  have hown : s.vm.findClass RX1 = some m.cls := hown
  have hl : lv_has ls 4 [(0, .ref qd), (1, .int a1)] := hl
  have J4 : ∀ (n : Nat) (x1 : Int32) (x2 : Int32) (x3 : Int32) (H : Heap) (locs : List Loc) (ls : Array Slot), va_P (gD G) vwCl (w0_X1_fameOfSet G qd qdb qde qdf db de df dc dp dk) H → va_D A (w0_X1_fameOfSet G qd qdb qde qdf db de df dc dp dk) → va_S A s.heap H locs → lv_has ls 4 [(0, .ref qd), (1, .int x1), (2, .int x2), (3, .int x3)] → wl_n_X1_fameOfSet_4 db de df dc dp dk Q n x1 x2 x3 → W p l e ({ frames := 2, cells := 0, slots := 0, locals := 41 } : Room) s m ([.ref qd, .int a1] : List Value).toArray below meth c H locs 0 0 (MQ below (va_Qi (fun (r : Int32) (u : Unit) => Q r) (mBk G A (fun (u : Unit) => (w0_X1_fameOfSet G qd qdb qde qdf db de df dc dp dk))) A) ([.ref qd, .int a1] : List Value).toArray s 0 0 A) (F0 m 4 ls []) := by
    intro n
    induction n with
    | zero => intro x1 x2 x3 H locs ls hP hD hS hl hw; exact False.elim hw
    | succ n ih =>
      intro x1 x2 x3 H locs ls hP hD hS hl hw
      rw [wl_n_X1_fameOfSet_4] at hw
      refine lv_iload_n hx hb dX1_fameOfSet_4 rfl (lv_at hl 3 rfl) ?_
      refine lv_aload_n hx hb dX1_fameOfSet_5 rfl (lv_at hl 0 rfl) ?_
      refine va_get (D := gD G) (ci := 1) (v := .int dc) (C := RX1) (T := TX1) (N := 6) hx hb hts k_X1_fameOfSet_inX1 hown hK hP 0 rfl rfl 3 (by decide) (hts _ k_X1_fameOfSet_f21) (fun _ h9 => h9) rfl dX1_fameOfSet_6 ?_
      refine lv_icmp_ge (tgt := 35) hx hb dX1_fameOfSet_9 (by decide) (fun c1 => ?_) (fun c1 => ?_)
      · have hw := hw.1 c1
        refine lv_iload_n hx hb dX1_fameOfSet_35 rfl (lv_at hl 2 rfl) ?_
        exact fin_i () hx hb hr hlocks hK hS hP hD hw dX1_fameOfSet_36
      · have hw := hw.2 c1
        refine lv_iload_n hx hb dX1_fameOfSet_12 rfl (lv_at hl 1 rfl) ?_
        refine lv_iload_n hx hb dX1_fameOfSet_13 rfl (lv_at hl 3 rfl) ?_
        refine kcR_i (kr_SN [] ⟨hx, hb, hml, hown, hts⟩ (cn_X5_isIn l G x1 x3 hw H.size) ⟨(va_cnB 2 hts gX1_fameOfSet_X5_isIn_n39 rfl rfl rfl (hG.1 (RX1, 39, yX5_isIn) (by decide +kernel)) (hts (.initialized RX5) (by decide +kernel)) (by decide +kernel) ⟨Nat.le_of_ble_eq_true rfl, Nat.le_of_ble_eq_true rfl⟩), hts (.static yX5_isIn) (by decide +kernel)⟩ hK hG hP hD hS hA [] rfl rfl rfl hl.1 rfl (Nat.le_of_ble_eq_true rfl) dX1_fameOfSet_14 ⟨Nat.le_of_ble_eq_true rfl, Nat.le_of_ble_eq_true rfl⟩) hP hD hS hA [] rfl (fun r2 u H locs hw hP hS => ?_)
        try dsimp only at hw
        obtain ⟨hz_r2, hw⟩ := hw
        refine lv_if_eq (tgt := 29) hx hb dX1_fameOfSet_17 (by decide) (fun c3 => ?_) (fun c3 => ?_)
        · have hw := hw.1 c3
          refine lv_iinc (v := (x3 + 1)) (lv' := [(3, .int (x3 + 1)), (0, .ref qd), (1, .int x1), (2, .int x2)]) hx hb dX1_fameOfSet_29 hl (k := 3) rfl rfl (by decide) rfl (fun ls hl => ?_)
          refine lv_goto (tgt := 4) hx hb dX1_fameOfSet_32 (by decide) ?_
          exact ih x1 x2 (x3 + 1) _ _ _ hP hD hS (lv_sub hl [1, 2, 3, 0] rfl) hw
        · have hw := hw.2 c3
          refine lv_iload_n hx hb dX1_fameOfSet_20 rfl (lv_at hl 2 rfl) ?_
          refine lv_aload_n hx hb dX1_fameOfSet_21 rfl (lv_at hl 0 rfl) ?_
          refine va_get (D := gD G) (ci := 1) (v := .ref qdf) (C := RX1) (T := TX1) (N := 6) hx hb hts k_X1_fameOfSet_inX1 hown hK hP 0 rfl rfl 2 (by decide) (hts _ k_X1_fameOfSet_f18) (fun _ h9 => h9) rfl dX1_fameOfSet_22 ?_
          refine lv_iload_n hx hb dX1_fameOfSet_25 rfl (lv_at hl 3 rfl) ?_
          obtain ⟨h4, hw⟩ := hw
          refine va_iald hx hb hK hP 3 0 rfl rfl h4 dX1_fameOfSet_26 ?_
          refine lv_iadd hx hb dX1_fameOfSet_27 ?_
          refine lv_istore_n (lv' := [(2, .int (x2 + (df x3.toNatClampNeg))), (0, .ref qd), (1, .int x1), (3, .int x3)]) hx hb dX1_fameOfSet_28 rfl hl (by decide) rfl (fun ls hl => ?_)
          refine lv_iinc (v := (x3 + 1)) (lv' := [(3, .int (x3 + 1)), (2, .int (x2 + (df x3.toNatClampNeg))), (0, .ref qd), (1, .int x1)]) hx hb dX1_fameOfSet_29 hl (k := 3) rfl rfl (by decide) rfl (fun ls hl => ?_)
          refine lv_goto (tgt := 4) hx hb dX1_fameOfSet_32 (by decide) ?_
          exact ih x1 (x2 + (df x3.toNatClampNeg)) (x3 + 1) _ _ _ hP hD hS (lv_sub hl [2, 3, 1, 0] rfl) hw
  unfold wn_X1_fameOfSet at hw
  refine lv_iconst (v := 0) hx hb dX1_fameOfSet_0 (by decide) ?_
  refine lv_istore_n (lv' := [(2, .int (0 : Int32)), (0, .ref qd), (1, .int a1)]) hx hb dX1_fameOfSet_1 rfl hl (by decide) rfl (fun ls hl => ?_)
  refine lv_iconst (v := 0) hx hb dX1_fameOfSet_2 (by decide) ?_
  refine lv_istore_n (lv' := [(3, .int (0 : Int32)), (2, .int (0 : Int32)), (0, .ref qd), (1, .int a1)]) hx hb dX1_fameOfSet_3 rfl hl (by decide) rfl (fun ls hl => ?_)
  obtain ⟨n4, hw⟩ := hw
  exact J4 n4 a1 (0 : Int32) (0 : Int32) _ _ _ hP hD hS (lv_sub hl [2, 3, 1, 0] rfl) hw
abbrev w0_X5_requireRehearsal (G : mG) (qm : Nat) (qd : Nat) (qs : Nat) (qn : Nat) (qk : Nat) (qt : Nat) (qr : Nat) (qx : Nat) (qdb : Nat) (qde : Nat) (qdf : Nat) (db : Nat → Int32) (de : Nat → Int32) (df : Nat → Int32) (dc : Int32) (dp : Int32) (dk : Int32) : va_W := [(qm, .inr (5, [.ref qd, .ref qs, .ref qn, .ref qk, .ref qt, .ref qr, .ref qx])), (qd, .inr (1, [.ref qdb, .ref qde, .ref qdf, .int dc, .int dp, .int dk])), (qdb, .inl (gI G, (14, .inl db))), (qde, .inl (gI G, (14, .inl de))), (qdf, .inl (gI G, (14, .inl df)))]
set_option maxRecDepth 100000 in
theorem k_X5_requireRehearsal_l331 : Cond.classLink RX5 331 "java/lang/IndexOutOfBoundsException" ∈ wsX5_requireRehearsal := by decide +kernel
set_option maxRecDepth 100000 in
theorem k_X5_requireRehearsal_i331 : Cond.initialized "java/lang/IndexOutOfBoundsException" ∈ wsX5_requireRehearsal := by decide +kernel
set_option maxRecDepth 100000 in
theorem k_X5_requireRehearsal_a335 : ∀ w ∈ (vx_atS RX5 335 "java/lang/IndexOutOfBoundsException" gSup).filter goodWord, w ∈ wsX5_requireRehearsal := by decide +kernel
set_option maxRecDepth 100000 in
theorem k_X5_requireRehearsal_inX5 : ∀ w ∈ u_ws RX5 TX5 7, w ∈ wsX5_requireRehearsal := by decide +kernel
set_option maxRecDepth 100000 in
theorem k_X5_requireRehearsal_f10 : Cond.fieldLink RX5 10 "RehearsalRoom" "day" "LRehearsalRoom$Day;" ∈ wsX5_requireRehearsal := by decide +kernel
set_option maxRecDepth 100000 in
theorem k_X5_requireRehearsal_inX1 : ∀ w ∈ u_ws RX1 TX1 6, w ∈ wsX5_requireRehearsal := by decide +kernel
set_option maxRecDepth 100000 in
theorem k_X5_requireRehearsal_f71 : Cond.fieldLink RX5 71 "RehearsalRoom$Day" "count" "I" ∈ wsX5_requireRehearsal := by decide +kernel
set_option maxHeartbeats 8000000 in
set_option maxRecDepth 100000 in
theorem cx_X5_requireRehearsal (l : Launch) (hst : l.stackTraces = false) (G : mG) (qm : Nat) (qd : Nat) (qs : Nat) (qn : Nat) (qk : Nat) (qt : Nat) (qr : Nat) (qx : Nat) (qdb : Nat) (qde : Nat) (qdf : Nat) (db : Nat → Int32) (de : Nat → Int32) (df : Nat → Int32) (dc : Int32) (dp : Int32) (dk : Int32) (a1 : Int32) {Q : Prop} {X : String → Prop} (hw : wx_X5_requireRehearsal db de df dc dp dk a1 Q X) (sz : Nat) :
    vx_Met l yX5_requireRehearsal wsX5_requireRehearsal ({ frames := 6, cells := 1, slots := 6, locals := 90 } : Room) (va_Pc [.ref qm, .int a1] (mPre G (w0_X5_requireRehearsal G qm qd qs qn qk qt qr qx qdb qde qdf db de df dc dp dk) sz)) (va_Qv (fun (u : Unit) => Q) (mBk G (va_A (w0_X5_requireRehearsal G qm qd qs qn qk qt qr qx qdb qde qdf db de df dc dp dk) sz) (fun (u : Unit) => (w0_X5_requireRehearsal G qm qd qs qn qk qt qr qx qdb qde qdf db de df dc dp dk))) (va_A (w0_X5_requireRehearsal G qm qd qs qn qk qt qr qx qdb qde qdf db de df dc dp dk) sz)) (vx_X (fun _ => True) (fun E u t => (fun (E : String) (u : Unit) => X E) E u ∧ mBk G (va_A (w0_X5_requireRehearsal G qm qd qs qn qk qt qr qx qdb qde qdf db de df dc dp dk) sz) (fun (u : Unit) => (w0_X5_requireRehearsal G qm qd qs qn qk qt qr qx qdb qde qdf db de df dc dp dk)) u t) (va_A (w0_X5_requireRehearsal G qm qd qs qn qk qt qr qx qdb qde qdf db de df dc dp dk) sz)) 1 6 (va_A (w0_X5_requireRehearsal G qm qd qs qn qk qt qr qx qdb qde qdf db de df dc dp dk) sz) := by
  refine mx_v (cc := cX5_requireRehearsal) (maxL := 2) (ret := none) (post := (fun (u : Unit) => Q)) (w1 := (fun (u : Unit) => (w0_X5_requireRehearsal G qm qd qs qn qk qt qr qx qdb qde qdf db de df dc dp dk))) (px := (fun (E : String) (u : Unit) => X E)) (by decide) rfl (Nat.le_of_ble_eq_true rfl) ?_ sz
  intro p e s m below meth c A ls H locs hx hb hr hml hown hts hlocks hnt hK hG hP hD hS hA hl
  have hown : s.vm.findClass RX5 = some m.cls := hown
  have hl : lv_has ls 2 [(0, .ref qm), (1, .int a1)] := hl
  have J15 : ∀ (x1 : Int32) (H : Heap) (locs : List Loc) (ls : Array Slot), va_P (gD G) vwCl (w0_X5_requireRehearsal G qm qd qs qn qk qt qr qx qdb qde qdf db de df dc dp dk) H → va_D A (w0_X5_requireRehearsal G qm qd qs qn qk qt qr qx qdb qde qdf db de df dc dp dk) → va_S A s.heap H locs → lv_has ls 2 [(0, .ref qm), (1, .int x1)] → wj_x_X5_requireRehearsal_15 db de df dc dp dk Q X x1 → W p l e ({ frames := 6, cells := 1, slots := 6, locals := 90 } : Room) s m ([.ref qm, .int a1] : List Value).toArray below meth c H locs 0 0 (vx_MQ below (va_Qv (fun (u : Unit) => Q) (mBk G A (fun (u : Unit) => (w0_X5_requireRehearsal G qm qd qs qn qk qt qr qx qdb qde qdf db de df dc dp dk))) A) (vx_X (fun _ => True) (fun E u t => (fun (E : String) (u : Unit) => X E) E u ∧ mBk G A (fun (u : Unit) => (w0_X5_requireRehearsal G qm qd qs qn qk qt qr qx qdb qde qdf db de df dc dp dk)) u t) A) ([.ref qm, .int a1] : List Value).toArray s 1 6 A) (F0 m 15 ls []) := by
    intro x1 H locs ls hP hD hS hl hw
    unfold wj_x_X5_requireRehearsal_15 at hw
    exact kthw (nL := 2) "no such rehearsal" () hx hb hst hown hts hG hnt hlocks hml hl.1 hK hS hP hD hw ⟨by decide +kernel, by decide +kernel⟩ (by decide +kernel) k_X5_requireRehearsal_l331 k_X5_requireRehearsal_i331 k_X5_requireRehearsal_a335 tnb_335 tgd_335 dX5_requireRehearsal_15 dX5_requireRehearsal_18 dX5_requireRehearsal_25 ⟨dX5_requireRehearsal_19, dX5_requireRehearsal_22⟩ ⟨by decide, by decide, by decide, by decide⟩ (Nat.le_of_ble_eq_true rfl) (Nat.le_of_ble_eq_true rfl)
  unfold wx_X5_requireRehearsal at hw
  refine lv_iload_n hx hb dX5_requireRehearsal_0 rfl (lv_at hl 1 rfl) ?_
  refine lv_if_lt (tgt := 15) hx hb dX5_requireRehearsal_1 (by decide) (fun c1 => ?_) (fun c1 => ?_)
  · have hw := hw.1 c1
    exact J15 a1 _ _ _ hP hD hS hl hw
  · have hw := hw.2 c1
    refine lv_iload_n hx hb dX5_requireRehearsal_4 rfl (lv_at hl 1 rfl) ?_
    refine lv_aload_n hx hb dX5_requireRehearsal_5 rfl (lv_at hl 0 rfl) ?_
    refine va_get (D := gD G) (ci := 5) (v := .ref qd) (C := RX5) (T := TX5) (N := 7) hx hb hts k_X5_requireRehearsal_inX5 hown hK hP 0 rfl rfl 0 (by decide) (hts _ k_X5_requireRehearsal_f10) (fun _ h9 => h9) rfl dX5_requireRehearsal_6 ?_
    refine va_get (D := gD G) (ci := 1) (v := .int dc) (C := RX1) (T := TX1) (N := 6) hx hb hts k_X5_requireRehearsal_inX1 hown hK hP 1 rfl rfl 3 (by decide) (hts _ k_X5_requireRehearsal_f71) (fun _ h9 => h9) rfl dX5_requireRehearsal_9 ?_
    refine lv_icmp_lt (tgt := 26) hx hb dX5_requireRehearsal_12 (by decide) (fun c2 => ?_) (fun c2 => ?_)
    · have hw := hw.1 c2
      exact fin_x (Nat.le_of_ble_eq_true rfl) (Nat.le_of_ble_eq_true rfl) (fin_v () hx hb hr hlocks hK hS hP hD hw dX5_requireRehearsal_26)
    · have hw := hw.2 c2
      exact J15 a1 _ _ _ hP hD hS hl hw
abbrev w0_X1_copyRehearsal_two (G : mG) (qd : Nat) (qdb : Nat) (qde : Nat) (qdf : Nat) (qo : Nat) (qob : Nat) (qoe : Nat) (qof : Nat) (db : Nat → Int32) (de : Nat → Int32) (df : Nat → Int32) (dc : Int32) (dp : Int32) (dk : Int32) (ob : Nat → Int32) (oe : Nat → Int32) (of : Nat → Int32) (oc : Int32) (op : Int32) (ok : Int32) : va_W := [(qd, .inr (1, [.ref qdb, .ref qde, .ref qdf, .int dc, .int dp, .int dk])), (qdb, .inl (gI G, (14, .inl db))), (qde, .inl (gI G, (14, .inl de))), (qdf, .inl (gI G, (14, .inl df))), (qo, .inr (1, [.ref qob, .ref qoe, .ref qof, .int oc, .int op, .int ok])), (qob, .inl (gI G, (14, .inl ob))), (qoe, .inl (gI G, (14, .inl oe))), (qof, .inl (gI G, (14, .inl of)))]
set_option maxHeartbeats 8000000 in
set_option maxRecDepth 100000 in
theorem cn_X1_copyRehearsal_two (l : Launch) (G : mG) (qd : Nat) (qdb : Nat) (qde : Nat) (qdf : Nat) (qo : Nat) (qob : Nat) (qoe : Nat) (qof : Nat) (db : Nat → Int32) (de : Nat → Int32) (df : Nat → Int32) (dc : Int32) (dp : Int32) (dk : Int32) (ob : Nat → Int32) (oe : Nat → Int32) (of : Nat → Int32) (oc : Int32) (op : Int32) (ok : Int32) (a2 : Int32) (a3 : Int32) {Q : (Nat → Int32) → (Nat → Int32) → (Nat → Int32) → Prop} (hw : wn_X1_copyRehearsal_two db de df dc dp dk ob oe of oc op ok a2 a3 Q) (sz : Nat) :
    Met l yX1_copyRehearsal wsX1_copyRehearsal ({ frames := 0, cells := 0, slots := 0, locals := 0 } : Room) (va_Pc [.ref qd, .ref qo, .int a2, .int a3] (mPre G (w0_X1_copyRehearsal_two G qd qdb qde qdf qo qob qoe qof db de df dc dp dk ob oe of oc op ok) sz)) (va_Qv (fun (u : (Nat → Int32) × (Nat → Int32) × (Nat → Int32)) => Q u.1 u.2.1 u.2.2) (mBk G (va_A (w0_X1_copyRehearsal_two G qd qdb qde qdf qo qob qoe qof db de df dc dp dk ob oe of oc op ok) sz) (fun (u : (Nat → Int32) × (Nat → Int32) × (Nat → Int32)) => (w0_X1_copyRehearsal_two G qd qdb qde qdf qo qob qoe qof u.1 u.2.1 u.2.2 dc dp dk ob oe of oc op ok))) (va_A (w0_X1_copyRehearsal_two G qd qdb qde qdf qo qob qoe qof db de df dc dp dk ob oe of oc op ok) sz)) 0 0 (va_A (w0_X1_copyRehearsal_two G qd qdb qde qdf qo qob qoe qof db de df dc dp dk ob oe of oc op ok) sz) := by
  refine ms_v (cc := cX1_copyRehearsal) (maxL := 4) (ret := none) (post := (fun (u : (Nat → Int32) × (Nat → Int32) × (Nat → Int32)) => Q u.1 u.2.1 u.2.2)) (w1 := (fun (u : (Nat → Int32) × (Nat → Int32) × (Nat → Int32)) => (w0_X1_copyRehearsal_two G qd qdb qde qdf qo qob qoe qof u.1 u.2.1 u.2.2 dc dp dk ob oe of oc op ok))) (by decide) rfl (Nat.le_of_ble_eq_true rfl) ?_ sz
  intro p e s m below meth c A ls H locs hx hb hr hml hown hts hlocks hK hG hP hD hS hA hl
  have hown : s.vm.findClass RX1 = some m.cls := hown
  have hl : lv_has ls 4 [(0, .ref qd), (1, .ref qo), (2, .int a2), (3, .int a3)] := hl
  unfold wn_X1_copyRehearsal_two at hw
  refine lv_aload_n hx hb dX1_copyRehearsal_0 rfl (lv_at hl 0 rfl) ?_
  refine va_get (D := gD G) (ci := 1) (v := .ref qdb) (C := RX1) (T := TX1) (N := 6) hx hb hts k_X1_copyRehearsal_inX1 hown hK hP 0 rfl rfl 0 (by decide) (hts _ k_X1_copyRehearsal_f9) (fun _ h9 => h9) rfl dX1_copyRehearsal_1 ?_
  refine lv_iload_n hx hb dX1_copyRehearsal_4 rfl (lv_at hl 3 rfl) ?_
  refine lv_aload_n hx hb dX1_copyRehearsal_5 rfl (lv_at hl 1 rfl) ?_
  refine va_get (D := gD G) (ci := 1) (v := .ref qob) (C := RX1) (T := TX1) (N := 6) hx hb hts k_X1_copyRehearsal_inX1 hown hK hP 4 rfl rfl 0 (by decide) (hts _ k_X1_copyRehearsal_f9) (fun _ h9 => h9) rfl dX1_copyRehearsal_6 ?_
  refine lv_iload_n hx hb dX1_copyRehearsal_9 rfl (lv_at hl 2 rfl) ?_
  obtain ⟨h1, hw⟩ := hw
  refine va_iald hx hb hK hP 5 0 rfl rfl h1 dX1_copyRehearsal_10 ?_
  obtain ⟨h2, hw⟩ := hw
  refine va_iast hx hb hK hP hD hS 1 0 rfl rfl h2 dX1_copyRehearsal_11 (fun H locs hP hD hS => ?_)
  have hP : va_P (gD G) vwCl (w0_X1_copyRehearsal_two G qd qdb qde qdf qo qob qoe qof (upd db a3.toNatClampNeg (ob a2.toNatClampNeg)) de df dc dp dk ob oe of oc op ok) H := hP
  have hD : va_D A (w0_X1_copyRehearsal_two G qd qdb qde qdf qo qob qoe qof (upd db a3.toNatClampNeg (ob a2.toNatClampNeg)) de df dc dp dk ob oe of oc op ok) := hD
  refine lv_aload_n hx hb dX1_copyRehearsal_12 rfl (lv_at hl 0 rfl) ?_
  refine va_get (D := gD G) (ci := 1) (v := .ref qde) (C := RX1) (T := TX1) (N := 6) hx hb hts k_X1_copyRehearsal_inX1 hown hK hP 0 rfl rfl 1 (by decide) (hts _ k_X1_copyRehearsal_f15) (fun _ h9 => h9) rfl dX1_copyRehearsal_13 ?_
  refine lv_iload_n hx hb dX1_copyRehearsal_16 rfl (lv_at hl 3 rfl) ?_
  refine lv_aload_n hx hb dX1_copyRehearsal_17 rfl (lv_at hl 1 rfl) ?_
  refine va_get (D := gD G) (ci := 1) (v := .ref qoe) (C := RX1) (T := TX1) (N := 6) hx hb hts k_X1_copyRehearsal_inX1 hown hK hP 4 rfl rfl 1 (by decide) (hts _ k_X1_copyRehearsal_f15) (fun _ h9 => h9) rfl dX1_copyRehearsal_18 ?_
  refine lv_iload_n hx hb dX1_copyRehearsal_21 rfl (lv_at hl 2 rfl) ?_
  obtain ⟨h3, hw⟩ := hw
  refine va_iald hx hb hK hP 6 0 rfl rfl h3 dX1_copyRehearsal_22 ?_
  obtain ⟨h4, hw⟩ := hw
  refine va_iast hx hb hK hP hD hS 2 0 rfl rfl h4 dX1_copyRehearsal_23 (fun H locs hP hD hS => ?_)
  have hP : va_P (gD G) vwCl (w0_X1_copyRehearsal_two G qd qdb qde qdf qo qob qoe qof (upd db a3.toNatClampNeg (ob a2.toNatClampNeg)) (upd de a3.toNatClampNeg (oe a2.toNatClampNeg)) df dc dp dk ob oe of oc op ok) H := hP
  have hD : va_D A (w0_X1_copyRehearsal_two G qd qdb qde qdf qo qob qoe qof (upd db a3.toNatClampNeg (ob a2.toNatClampNeg)) (upd de a3.toNatClampNeg (oe a2.toNatClampNeg)) df dc dp dk ob oe of oc op ok) := hD
  refine lv_aload_n hx hb dX1_copyRehearsal_24 rfl (lv_at hl 0 rfl) ?_
  refine va_get (D := gD G) (ci := 1) (v := .ref qdf) (C := RX1) (T := TX1) (N := 6) hx hb hts k_X1_copyRehearsal_inX1 hown hK hP 0 rfl rfl 2 (by decide) (hts _ k_X1_copyRehearsal_f18) (fun _ h9 => h9) rfl dX1_copyRehearsal_25 ?_
  refine lv_iload_n hx hb dX1_copyRehearsal_28 rfl (lv_at hl 3 rfl) ?_
  refine lv_aload_n hx hb dX1_copyRehearsal_29 rfl (lv_at hl 1 rfl) ?_
  refine va_get (D := gD G) (ci := 1) (v := .ref qof) (C := RX1) (T := TX1) (N := 6) hx hb hts k_X1_copyRehearsal_inX1 hown hK hP 4 rfl rfl 2 (by decide) (hts _ k_X1_copyRehearsal_f18) (fun _ h9 => h9) rfl dX1_copyRehearsal_30 ?_
  refine lv_iload_n hx hb dX1_copyRehearsal_33 rfl (lv_at hl 2 rfl) ?_
  obtain ⟨h5, hw⟩ := hw
  refine va_iald hx hb hK hP 7 0 rfl rfl h5 dX1_copyRehearsal_34 ?_
  obtain ⟨h6, hw⟩ := hw
  refine va_iast hx hb hK hP hD hS 3 0 rfl rfl h6 dX1_copyRehearsal_35 (fun H locs hP hD hS => ?_)
  have hP : va_P (gD G) vwCl (w0_X1_copyRehearsal_two G qd qdb qde qdf qo qob qoe qof (upd db a3.toNatClampNeg (ob a2.toNatClampNeg)) (upd de a3.toNatClampNeg (oe a2.toNatClampNeg)) (upd df a3.toNatClampNeg (of a2.toNatClampNeg)) dc dp dk ob oe of oc op ok) H := hP
  have hD : va_D A (w0_X1_copyRehearsal_two G qd qdb qde qdf qo qob qoe qof (upd db a3.toNatClampNeg (ob a2.toNatClampNeg)) (upd de a3.toNatClampNeg (oe a2.toNatClampNeg)) (upd df a3.toNatClampNeg (of a2.toNatClampNeg)) dc dp dk ob oe of oc op ok) := hD
  exact fin_v ((upd db a3.toNatClampNeg (ob a2.toNatClampNeg)), (upd de a3.toNatClampNeg (oe a2.toNatClampNeg)), (upd df a3.toNatClampNeg (of a2.toNatClampNeg))) hx hb hr hlocks hK hS hP hD hw dX1_copyRehearsal_36
abbrev w0_X1_copyFrom (G : mG) (qd : Nat) (qdb : Nat) (qde : Nat) (qdf : Nat) (qo : Nat) (qob : Nat) (qoe : Nat) (qof : Nat) (db : Nat → Int32) (de : Nat → Int32) (df : Nat → Int32) (dc : Int32) (dp : Int32) (dk : Int32) (ob : Nat → Int32) (oe : Nat → Int32) (of : Nat → Int32) (oc : Int32) (op : Int32) (ok : Int32) : va_W := [(qd, .inr (1, [.ref qdb, .ref qde, .ref qdf, .int dc, .int dp, .int dk])), (qdb, .inl (gI G, (14, .inl db))), (qde, .inl (gI G, (14, .inl de))), (qdf, .inl (gI G, (14, .inl df))), (qo, .inr (1, [.ref qob, .ref qoe, .ref qof, .int oc, .int op, .int ok])), (qob, .inl (gI G, (14, .inl ob))), (qoe, .inl (gI G, (14, .inl oe))), (qof, .inl (gI G, (14, .inl of)))]
set_option maxRecDepth 100000 in
theorem k_X1_copyFrom_inX1 : ∀ w ∈ u_ws RX1 TX1 6, w ∈ wsX1_copyFrom := by decide +kernel
set_option maxRecDepth 100000 in
theorem k_X1_copyFrom_f21 : Cond.fieldLink RX1 21 "RehearsalRoom$Day" "count" "I" ∈ wsX1_copyFrom := by decide +kernel
set_option maxRecDepth 100000 in
theorem k_X1_copyFrom_f25 : Cond.fieldLink RX1 25 "RehearsalRoom$Day" "pause" "I" ∈ wsX1_copyFrom := by decide +kernel
set_option maxRecDepth 100000 in
theorem k_X1_copyFrom_f28 : Cond.fieldLink RX1 28 "RehearsalRoom$Day" "bookings" "I" ∈ wsX1_copyFrom := by decide +kernel
set_option maxHeartbeats 8000000 in
set_option maxRecDepth 100000 in
theorem cn_X1_copyFrom (l : Launch) (G : mG) (qd : Nat) (qdb : Nat) (qde : Nat) (qdf : Nat) (qo : Nat) (qob : Nat) (qoe : Nat) (qof : Nat) (db : Nat → Int32) (de : Nat → Int32) (df : Nat → Int32) (dc : Int32) (dp : Int32) (dk : Int32) (ob : Nat → Int32) (oe : Nat → Int32) (of : Nat → Int32) (oc : Int32) (op : Int32) (ok : Int32) {Q : (Nat → Int32) → (Nat → Int32) → (Nat → Int32) → Int32 → Int32 → Int32 → Prop} (hw : wn_X1_copyFrom db de df dc dp dk ob oe of oc op ok Q) (sz : Nat) :
    Met l yX1_copyFrom wsX1_copyFrom ({ frames := 1, cells := 0, slots := 0, locals := 23 } : Room) (va_Pc [.ref qd, .ref qo] (mPre G (w0_X1_copyFrom G qd qdb qde qdf qo qob qoe qof db de df dc dp dk ob oe of oc op ok) sz)) (va_Qv (fun (u : (Nat → Int32) × (Nat → Int32) × (Nat → Int32) × Int32 × Int32 × Int32) => Q u.1 u.2.1 u.2.2.1 u.2.2.2.1 u.2.2.2.2.1 u.2.2.2.2.2) (mBk G (va_A (w0_X1_copyFrom G qd qdb qde qdf qo qob qoe qof db de df dc dp dk ob oe of oc op ok) sz) (fun (u : (Nat → Int32) × (Nat → Int32) × (Nat → Int32) × Int32 × Int32 × Int32) => (w0_X1_copyFrom G qd qdb qde qdf qo qob qoe qof u.1 u.2.1 u.2.2.1 u.2.2.2.1 u.2.2.2.2.1 u.2.2.2.2.2 ob oe of oc op ok))) (va_A (w0_X1_copyFrom G qd qdb qde qdf qo qob qoe qof db de df dc dp dk ob oe of oc op ok) sz)) 0 0 (va_A (w0_X1_copyFrom G qd qdb qde qdf qo qob qoe qof db de df dc dp dk ob oe of oc op ok) sz) := by
  refine ms_v (cc := cX1_copyFrom) (maxL := 3) (ret := none) (post := (fun (u : (Nat → Int32) × (Nat → Int32) × (Nat → Int32) × Int32 × Int32 × Int32) => Q u.1 u.2.1 u.2.2.1 u.2.2.2.1 u.2.2.2.2.1 u.2.2.2.2.2)) (w1 := (fun (u : (Nat → Int32) × (Nat → Int32) × (Nat → Int32) × Int32 × Int32 × Int32) => (w0_X1_copyFrom G qd qdb qde qdf qo qob qoe qof u.1 u.2.1 u.2.2.1 u.2.2.2.1 u.2.2.2.2.1 u.2.2.2.2.2 ob oe of oc op ok))) (by decide) rfl (Nat.le_of_ble_eq_true rfl) ?_ sz
  intro p e s m below meth c A ls H locs hx hb hr hml hown hts hlocks hK hG hP hD hS hA hl
  have hown : s.vm.findClass RX1 = some m.cls := hown
  have hl : lv_has ls 3 [(0, .ref qd), (1, .ref qo)] := hl
  have J2 : ∀ (n : Nat) (db : Nat → Int32) (de : Nat → Int32) (df : Nat → Int32) (dc : Int32) (dp : Int32) (dk : Int32) (x2 : Int32) (H : Heap) (locs : List Loc) (ls : Array Slot), va_P (gD G) vwCl (w0_X1_copyFrom G qd qdb qde qdf qo qob qoe qof db de df dc dp dk ob oe of oc op ok) H → va_D A (w0_X1_copyFrom G qd qdb qde qdf qo qob qoe qof db de df dc dp dk ob oe of oc op ok) → va_S A s.heap H locs → lv_has ls 3 [(0, .ref qd), (1, .ref qo), (2, .int x2)] → wl_n_X1_copyFrom_2 ob oe of oc op ok Q n db de df dc dp dk x2 → W p l e ({ frames := 1, cells := 0, slots := 0, locals := 23 } : Room) s m ([.ref qd, .ref qo] : List Value).toArray below meth c H locs 0 0 (MQ below (va_Qv (fun (u : (Nat → Int32) × (Nat → Int32) × (Nat → Int32) × Int32 × Int32 × Int32) => Q u.1 u.2.1 u.2.2.1 u.2.2.2.1 u.2.2.2.2.1 u.2.2.2.2.2) (mBk G A (fun (u : (Nat → Int32) × (Nat → Int32) × (Nat → Int32) × Int32 × Int32 × Int32) => (w0_X1_copyFrom G qd qdb qde qdf qo qob qoe qof u.1 u.2.1 u.2.2.1 u.2.2.2.1 u.2.2.2.2.1 u.2.2.2.2.2 ob oe of oc op ok))) A) ([.ref qd, .ref qo] : List Value).toArray s 0 0 A) (F0 m 2 ls []) := by
    intro n
    induction n with
    | zero => intro db de df dc dp dk x2 H locs ls hP hD hS hl hw; exact False.elim hw
    | succ n ih =>
      intro db de df dc dp dk x2 H locs ls hP hD hS hl hw
      rw [wl_n_X1_copyFrom_2] at hw
      refine lv_iload_n hx hb dX1_copyFrom_2 rfl (lv_at hl 2 rfl) ?_
      refine lv_aload_n hx hb dX1_copyFrom_3 rfl (lv_at hl 1 rfl) ?_
      refine va_get (D := gD G) (ci := 1) (v := .int oc) (C := RX1) (T := TX1) (N := 6) hx hb hts k_X1_copyFrom_inX1 hown hK hP 4 rfl rfl 3 (by decide) (hts _ k_X1_copyFrom_f21) (fun _ h9 => h9) rfl dX1_copyFrom_4 ?_
      refine lv_icmp_ge (tgt := 23) hx hb dX1_copyFrom_7 (by decide) (fun c1 => ?_) (fun c1 => ?_)
      · have hw := hw.1 c1
        refine lv_aload_n hx hb dX1_copyFrom_23 rfl (lv_at hl 0 rfl) ?_
        refine lv_aload_n hx hb dX1_copyFrom_24 rfl (lv_at hl 1 rfl) ?_
        refine va_get (D := gD G) (ci := 1) (v := .int oc) (C := RX1) (T := TX1) (N := 6) hx hb hts k_X1_copyFrom_inX1 hown hK hP 4 rfl rfl 3 (by decide) (hts _ k_X1_copyFrom_f21) (fun _ h9 => h9) rfl dX1_copyFrom_25 ?_
        refine va_put (D := gD G) (ci := 1) (v := .int oc) (ty := .int) (C := RX1) (T := TX1) (N := 6) hx hb hts k_X1_copyFrom_inX1 tyX1 tyX1_ok nmX1 hown hK hP hD hS 0 rfl rfl 3 (by decide) (hts _ k_X1_copyFrom_f21) (fun _ h9 => h9) rfl (by decide +kernel) rfl rfl (Nat.le_of_ble_eq_true rfl) dX1_copyFrom_28 (fun H locs hP hD hS => ?_)
        have hP : va_P (gD G) vwCl (w0_X1_copyFrom G qd qdb qde qdf qo qob qoe qof db de df oc dp dk ob oe of oc op ok) H := hP
        have hD : va_D A (w0_X1_copyFrom G qd qdb qde qdf qo qob qoe qof db de df oc dp dk ob oe of oc op ok) := hD
        refine lv_aload_n hx hb dX1_copyFrom_31 rfl (lv_at hl 0 rfl) ?_
        refine lv_aload_n hx hb dX1_copyFrom_32 rfl (lv_at hl 1 rfl) ?_
        refine va_get (D := gD G) (ci := 1) (v := .int op) (C := RX1) (T := TX1) (N := 6) hx hb hts k_X1_copyFrom_inX1 hown hK hP 4 rfl rfl 4 (by decide) (hts _ k_X1_copyFrom_f25) (fun _ h9 => h9) rfl dX1_copyFrom_33 ?_
        refine va_put (D := gD G) (ci := 1) (v := .int op) (ty := .int) (C := RX1) (T := TX1) (N := 6) hx hb hts k_X1_copyFrom_inX1 tyX1 tyX1_ok nmX1 hown hK hP hD hS 0 rfl rfl 4 (by decide) (hts _ k_X1_copyFrom_f25) (fun _ h9 => h9) rfl (by decide +kernel) rfl rfl (Nat.le_of_ble_eq_true rfl) dX1_copyFrom_36 (fun H locs hP hD hS => ?_)
        have hP : va_P (gD G) vwCl (w0_X1_copyFrom G qd qdb qde qdf qo qob qoe qof db de df oc op dk ob oe of oc op ok) H := hP
        have hD : va_D A (w0_X1_copyFrom G qd qdb qde qdf qo qob qoe qof db de df oc op dk ob oe of oc op ok) := hD
        refine lv_aload_n hx hb dX1_copyFrom_39 rfl (lv_at hl 0 rfl) ?_
        refine lv_aload_n hx hb dX1_copyFrom_40 rfl (lv_at hl 1 rfl) ?_
        refine va_get (D := gD G) (ci := 1) (v := .int ok) (C := RX1) (T := TX1) (N := 6) hx hb hts k_X1_copyFrom_inX1 hown hK hP 4 rfl rfl 5 (by decide) (hts _ k_X1_copyFrom_f28) (fun _ h9 => h9) rfl dX1_copyFrom_41 ?_
        refine va_put (D := gD G) (ci := 1) (v := .int ok) (ty := .int) (C := RX1) (T := TX1) (N := 6) hx hb hts k_X1_copyFrom_inX1 tyX1 tyX1_ok nmX1 hown hK hP hD hS 0 rfl rfl 5 (by decide) (hts _ k_X1_copyFrom_f28) (fun _ h9 => h9) rfl (by decide +kernel) rfl rfl (Nat.le_of_ble_eq_true rfl) dX1_copyFrom_44 (fun H locs hP hD hS => ?_)
        have hP : va_P (gD G) vwCl (w0_X1_copyFrom G qd qdb qde qdf qo qob qoe qof db de df oc op ok ob oe of oc op ok) H := hP
        have hD : va_D A (w0_X1_copyFrom G qd qdb qde qdf qo qob qoe qof db de df oc op ok ob oe of oc op ok) := hD
        exact fin_v (db, de, df, oc, op, ok) hx hb hr hlocks hK hS hP hD hw dX1_copyFrom_47
      · have hw := hw.2 c1
        refine lv_aload_n hx hb dX1_copyFrom_10 rfl (lv_at hl 0 rfl) ?_
        refine lv_aload_n hx hb dX1_copyFrom_11 rfl (lv_at hl 1 rfl) ?_
        refine lv_iload_n hx hb dX1_copyFrom_12 rfl (lv_at hl 2 rfl) ?_
        refine lv_iload_n hx hb dX1_copyFrom_13 rfl (lv_at hl 2 rfl) ?_
        refine kc_v (kr_V [] ⟨hx, hb, hml, hown, hts⟩ (cn_X1_copyRehearsal_two l G qd qdb qde qdf qo qob qoe qof db de df dc dp dk ob oe of oc op ok x2 x2 hw H.size) (cwV 3 hts gX1_copyFrom_X1_copyRehearsal rfl rfl rfl (by decide +kernel) ⟨Nat.le_of_ble_eq_true rfl, Nat.le_of_ble_eq_true rfl⟩) hK hG hP hD hS hA [0, 1, 2, 3, 4, 5, 6, 7] rfl rfl 1 0 rfl rfl rfl hl.1 rfl (Nat.le_of_ble_eq_true rfl) dX1_copyFrom_14 ⟨Nat.le_of_ble_eq_true rfl, Nat.le_of_ble_eq_true rfl⟩) hP hD hS hA [0, 1, 2, 3, 4, 5, 6, 7] [] rfl rfl rfl (by decide) (fun u H locs hw hP hD hS => ?_)
        obtain ⟨db_2, de_3, df_4⟩ := u
        try dsimp only at hw
        have hP := hP.sub (ws' := (w0_X1_copyFrom G qd qdb qde qdf qo qob qoe qof db_2 de_3 df_4 dc dp dk ob oe of oc op ok)) [0, 1, 2, 3, 4, 5, 6, 7] rfl
        have hD := hD.sub (ws' := (w0_X1_copyFrom G qd qdb qde qdf qo qob qoe qof db_2 de_3 df_4 dc dp dk ob oe of oc op ok)) [0, 1, 2, 3, 4, 5, 6, 7] rfl rfl
        refine lv_iinc (v := (x2 + 1)) (lv' := [(2, .int (x2 + 1)), (0, .ref qd), (1, .ref qo)]) hx hb dX1_copyFrom_17 hl (k := 2) rfl rfl (by decide) rfl (fun ls hl => ?_)
        refine lv_goto (tgt := 2) hx hb dX1_copyFrom_20 (by decide) ?_
        exact ih db_2 de_3 df_4 dc dp dk (x2 + 1) _ _ _ hP hD hS (lv_sub hl [1, 2, 0] rfl) hw
  unfold wn_X1_copyFrom at hw
  refine lv_iconst (v := 0) hx hb dX1_copyFrom_0 (by decide) ?_
  refine lv_istore_n (lv' := [(2, .int (0 : Int32)), (0, .ref qd), (1, .ref qo)]) hx hb dX1_copyFrom_1 rfl hl (by decide) rfl (fun ls hl => ?_)
  obtain ⟨n2, hw⟩ := hw
  exact J2 n2 db de df dc dp dk (0 : Int32) _ _ _ hP hD hS (lv_sub hl [1, 2, 0] rfl) hw
abbrev w0_X3_save (G : mG) (qs : Nat) (qsa : Nat) (qs0 : Nat) (qs0b : Nat) (qs0e : Nat) (qs0f : Nat) (qs1 : Nat) (qs1b : Nat) (qs1e : Nat) (qs1f : Nat) (qs2 : Nat) (qs2b : Nat) (qs2e : Nat) (qs2f : Nat) (qs3 : Nat) (qs3b : Nat) (qs3e : Nat) (qs3f : Nat) (qs4 : Nat) (qs4b : Nat) (qs4e : Nat) (qs4f : Nat) (qs5 : Nat) (qs5b : Nat) (qs5e : Nat) (qs5f : Nat) (qd : Nat) (qdb : Nat) (qde : Nat) (qdf : Nat) (so : Int32) (sn : Int32) (sb : Nat → Nat → Int32) (se : Nat → Nat → Int32) (sf : Nat → Nat → Int32) (sc : Nat → Int32) (sp : Nat → Int32) (sk : Nat → Int32) (db : Nat → Int32) (de : Nat → Int32) (df : Nat → Int32) (dc : Int32) (dp : Int32) (dk : Int32) : va_W := [(qs, .inr (3, [.ref qsa, .int so, .int sn])), (qsa, .inl (gQ G, (6, .inr (.inr (.inr (.inr (g6 qs0 qs1 qs2 qs3 qs4 qs5))))))), (qs0, .inr (1, [.ref qs0b, .ref qs0e, .ref qs0f, .int (sc 0), .int (sp 0), .int (sk 0)])), (qs0b, .inl (gI G, (14, .inl (sb 0)))), (qs0e, .inl (gI G, (14, .inl (se 0)))), (qs0f, .inl (gI G, (14, .inl (sf 0)))), (qs1, .inr (1, [.ref qs1b, .ref qs1e, .ref qs1f, .int (sc 1), .int (sp 1), .int (sk 1)])), (qs1b, .inl (gI G, (14, .inl (sb 1)))), (qs1e, .inl (gI G, (14, .inl (se 1)))), (qs1f, .inl (gI G, (14, .inl (sf 1)))), (qs2, .inr (1, [.ref qs2b, .ref qs2e, .ref qs2f, .int (sc 2), .int (sp 2), .int (sk 2)])), (qs2b, .inl (gI G, (14, .inl (sb 2)))), (qs2e, .inl (gI G, (14, .inl (se 2)))), (qs2f, .inl (gI G, (14, .inl (sf 2)))), (qs3, .inr (1, [.ref qs3b, .ref qs3e, .ref qs3f, .int (sc 3), .int (sp 3), .int (sk 3)])), (qs3b, .inl (gI G, (14, .inl (sb 3)))), (qs3e, .inl (gI G, (14, .inl (se 3)))), (qs3f, .inl (gI G, (14, .inl (sf 3)))), (qs4, .inr (1, [.ref qs4b, .ref qs4e, .ref qs4f, .int (sc 4), .int (sp 4), .int (sk 4)])), (qs4b, .inl (gI G, (14, .inl (sb 4)))), (qs4e, .inl (gI G, (14, .inl (se 4)))), (qs4f, .inl (gI G, (14, .inl (sf 4)))), (qs5, .inr (1, [.ref qs5b, .ref qs5e, .ref qs5f, .int (sc 5), .int (sp 5), .int (sk 5)])), (qs5b, .inl (gI G, (14, .inl (sb 5)))), (qs5e, .inl (gI G, (14, .inl (se 5)))), (qs5f, .inl (gI G, (14, .inl (sf 5)))), (qd, .inr (1, [.ref qdb, .ref qde, .ref qdf, .int dc, .int dp, .int dk])), (qdb, .inl (gI G, (14, .inl db))), (qde, .inl (gI G, (14, .inl de))), (qdf, .inl (gI G, (14, .inl df)))]
set_option maxRecDepth 100000 in
theorem k_X3_save_inX3 : ∀ w ∈ u_ws RX3 TX3 3, w ∈ wsX3_save := by decide +kernel
set_option maxRecDepth 100000 in
theorem k_X3_save_f21 : Cond.fieldLink RX3 21 "RehearsalRoom$SavedDays" "count" "I" ∈ wsX3_save := by decide +kernel
set_option maxRecDepth 100000 in
theorem k_X3_save_f11 : Cond.fieldLink RX3 11 "RehearsalRoom$SavedDays" "days" "[LRehearsalRoom$Day;" ∈ wsX3_save := by decide +kernel
set_option maxRecDepth 100000 in
theorem k_X3_save_f17 : Cond.fieldLink RX3 17 "RehearsalRoom$SavedDays" "oldest" "I" ∈ wsX3_save := by decide +kernel
set_option maxHeartbeats 8000000 in
set_option maxRecDepth 100000 in
theorem cn_X3_save (l : Launch) (G : mG) (qs : Nat) (qsa : Nat) (qs0 : Nat) (qs0b : Nat) (qs0e : Nat) (qs0f : Nat) (qs1 : Nat) (qs1b : Nat) (qs1e : Nat) (qs1f : Nat) (qs2 : Nat) (qs2b : Nat) (qs2e : Nat) (qs2f : Nat) (qs3 : Nat) (qs3b : Nat) (qs3e : Nat) (qs3f : Nat) (qs4 : Nat) (qs4b : Nat) (qs4e : Nat) (qs4f : Nat) (qs5 : Nat) (qs5b : Nat) (qs5e : Nat) (qs5f : Nat) (qd : Nat) (qdb : Nat) (qde : Nat) (qdf : Nat) (so : Int32) (sn : Int32) (sb : Nat → Nat → Int32) (se : Nat → Nat → Int32) (sf : Nat → Nat → Int32) (sc : Nat → Int32) (sp : Nat → Int32) (sk : Nat → Int32) (db : Nat → Int32) (de : Nat → Int32) (df : Nat → Int32) (dc : Int32) (dp : Int32) (dk : Int32) {Q : Int32 → Int32 → (Nat → Nat → Int32) → (Nat → Nat → Int32) → (Nat → Nat → Int32) → (Nat → Int32) → (Nat → Int32) → (Nat → Int32) → Prop} (hw : wn_X3_save so sn sb se sf sc sp sk db de df dc dp dk Q) (sz : Nat) :
    Met l yX3_save wsX3_save ({ frames := 2, cells := 0, slots := 0, locals := 45 } : Room) (va_Pc [.ref qs, .ref qd] (mPre G (w0_X3_save G qs qsa qs0 qs0b qs0e qs0f qs1 qs1b qs1e qs1f qs2 qs2b qs2e qs2f qs3 qs3b qs3e qs3f qs4 qs4b qs4e qs4f qs5 qs5b qs5e qs5f qd qdb qde qdf so sn sb se sf sc sp sk db de df dc dp dk) sz)) (va_Qv (fun (u : Int32 × Int32 × (Nat → Nat → Int32) × (Nat → Nat → Int32) × (Nat → Nat → Int32) × (Nat → Int32) × (Nat → Int32) × (Nat → Int32)) => Q u.1 u.2.1 u.2.2.1 u.2.2.2.1 u.2.2.2.2.1 u.2.2.2.2.2.1 u.2.2.2.2.2.2.1 u.2.2.2.2.2.2.2) (mBk G (va_A (w0_X3_save G qs qsa qs0 qs0b qs0e qs0f qs1 qs1b qs1e qs1f qs2 qs2b qs2e qs2f qs3 qs3b qs3e qs3f qs4 qs4b qs4e qs4f qs5 qs5b qs5e qs5f qd qdb qde qdf so sn sb se sf sc sp sk db de df dc dp dk) sz) (fun (u : Int32 × Int32 × (Nat → Nat → Int32) × (Nat → Nat → Int32) × (Nat → Nat → Int32) × (Nat → Int32) × (Nat → Int32) × (Nat → Int32)) => (w0_X3_save G qs qsa qs0 qs0b qs0e qs0f qs1 qs1b qs1e qs1f qs2 qs2b qs2e qs2f qs3 qs3b qs3e qs3f qs4 qs4b qs4e qs4f qs5 qs5b qs5e qs5f qd qdb qde qdf u.1 u.2.1 u.2.2.1 u.2.2.2.1 u.2.2.2.2.1 u.2.2.2.2.2.1 u.2.2.2.2.2.2.1 u.2.2.2.2.2.2.2 db de df dc dp dk))) (va_A (w0_X3_save G qs qsa qs0 qs0b qs0e qs0f qs1 qs1b qs1e qs1f qs2 qs2b qs2e qs2f qs3 qs3b qs3e qs3f qs4 qs4b qs4e qs4f qs5 qs5b qs5e qs5f qd qdb qde qdf so sn sb se sf sc sp sk db de df dc dp dk) sz)) 0 0 (va_A (w0_X3_save G qs qsa qs0 qs0b qs0e qs0f qs1 qs1b qs1e qs1f qs2 qs2b qs2e qs2f qs3 qs3b qs3e qs3f qs4 qs4b qs4e qs4f qs5 qs5b qs5e qs5f qd qdb qde qdf so sn sb se sf sc sp sk db de df dc dp dk) sz) := by
  refine ms_v (cc := cX3_save) (maxL := 2) (ret := none) (post := (fun (u : Int32 × Int32 × (Nat → Nat → Int32) × (Nat → Nat → Int32) × (Nat → Nat → Int32) × (Nat → Int32) × (Nat → Int32) × (Nat → Int32)) => Q u.1 u.2.1 u.2.2.1 u.2.2.2.1 u.2.2.2.2.1 u.2.2.2.2.2.1 u.2.2.2.2.2.2.1 u.2.2.2.2.2.2.2)) (w1 := (fun (u : Int32 × Int32 × (Nat → Nat → Int32) × (Nat → Nat → Int32) × (Nat → Nat → Int32) × (Nat → Int32) × (Nat → Int32) × (Nat → Int32)) => (w0_X3_save G qs qsa qs0 qs0b qs0e qs0f qs1 qs1b qs1e qs1f qs2 qs2b qs2e qs2f qs3 qs3b qs3e qs3f qs4 qs4b qs4e qs4f qs5 qs5b qs5e qs5f qd qdb qde qdf u.1 u.2.1 u.2.2.1 u.2.2.2.1 u.2.2.2.2.1 u.2.2.2.2.2.1 u.2.2.2.2.2.2.1 u.2.2.2.2.2.2.2 db de df dc dp dk))) (by decide) rfl (Nat.le_of_ble_eq_true rfl) ?_ sz
  intro p e s m below meth c A ls H locs hx hb hr hml hown hts hlocks hK hG hP hD hS hA hl
  have hown : s.vm.findClass RX3 = some m.cls := hown
  have hl : lv_has ls 2 [(0, .ref qs), (1, .ref qd)] := hl
  have J32 : ∀ (so : Int32) (sn : Int32) (sb : Nat → Nat → Int32) (se : Nat → Nat → Int32) (sf : Nat → Nat → Int32) (sc : Nat → Int32) (sp : Nat → Int32) (sk : Nat → Int32) (H : Heap) (locs : List Loc) (ls : Array Slot), va_P (gD G) vwCl (w0_X3_save G qs qsa qs0 qs0b qs0e qs0f qs1 qs1b qs1e qs1f qs2 qs2b qs2e qs2f qs3 qs3b qs3e qs3f qs4 qs4b qs4e qs4f qs5 qs5b qs5e qs5f qd qdb qde qdf so sn sb se sf sc sp sk db de df dc dp dk) H → va_D A (w0_X3_save G qs qsa qs0 qs0b qs0e qs0f qs1 qs1b qs1e qs1f qs2 qs2b qs2e qs2f qs3 qs3b qs3e qs3f qs4 qs4b qs4e qs4f qs5 qs5b qs5e qs5f qd qdb qde qdf so sn sb se sf sc sp sk db de df dc dp dk) → va_S A s.heap H locs → lv_has ls 2 [(0, .ref qs), (1, .ref qd)] → wj_n_X3_save_32 db de df dc dp dk Q so sn sb se sf sc sp sk → W p l e ({ frames := 2, cells := 0, slots := 0, locals := 45 } : Room) s m ([.ref qs, .ref qd] : List Value).toArray below meth c H locs 0 0 (MQ below (va_Qv (fun (u : Int32 × Int32 × (Nat → Nat → Int32) × (Nat → Nat → Int32) × (Nat → Nat → Int32) × (Nat → Int32) × (Nat → Int32) × (Nat → Int32)) => Q u.1 u.2.1 u.2.2.1 u.2.2.2.1 u.2.2.2.2.1 u.2.2.2.2.2.1 u.2.2.2.2.2.2.1 u.2.2.2.2.2.2.2) (mBk G A (fun (u : Int32 × Int32 × (Nat → Nat → Int32) × (Nat → Nat → Int32) × (Nat → Nat → Int32) × (Nat → Int32) × (Nat → Int32) × (Nat → Int32)) => (w0_X3_save G qs qsa qs0 qs0b qs0e qs0f qs1 qs1b qs1e qs1f qs2 qs2b qs2e qs2f qs3 qs3b qs3e qs3f qs4 qs4b qs4e qs4f qs5 qs5b qs5e qs5f qd qdb qde qdf u.1 u.2.1 u.2.2.1 u.2.2.2.1 u.2.2.2.2.1 u.2.2.2.2.2.1 u.2.2.2.2.2.2.1 u.2.2.2.2.2.2.2 db de df dc dp dk))) A) ([.ref qs, .ref qd] : List Value).toArray s 0 0 A) (F0 m 32 ls []) := by
    intro so sn sb se sf sc sp sk H locs ls hP hD hS hl hw
    unfold wj_n_X3_save_32 at hw
    refine lv_aload_n hx hb dX3_save_32 rfl (lv_at hl 0 rfl) ?_
    refine va_get (D := gD G) (ci := 3) (v := .ref qsa) (C := RX3) (T := TX3) (N := 3) hx hb hts k_X3_save_inX3 hown hK hP 0 rfl rfl 0 (by decide) (hts _ k_X3_save_f11) (fun _ h9 => h9) rfl dX3_save_33 ?_
    refine lv_aload_n hx hb dX3_save_36 rfl (lv_at hl 0 rfl) ?_
    refine va_get (D := gD G) (ci := 3) (v := .int so) (C := RX3) (T := TX3) (N := 3) hx hb hts k_X3_save_inX3 hown hK hP 0 rfl rfl 1 (by decide) (hts _ k_X3_save_f17) (fun _ h9 => h9) rfl dX3_save_37 ?_
    refine lv_aload_n hx hb dX3_save_40 rfl (lv_at hl 0 rfl) ?_
    refine va_get (D := gD G) (ci := 3) (v := .int sn) (C := RX3) (T := TX3) (N := 3) hx hb hts k_X3_save_inX3 hown hK hP 0 rfl rfl 2 (by decide) (hts _ k_X3_save_f21) (fun _ h9 => h9) rfl dX3_save_41 ?_
    refine lv_iadd hx hb dX3_save_44 ?_
    refine lv_bipush (v := 6) hx hb dX3_save_45 (by decide) ?_
    refine lv_irem hx hb dX3_save_47 (by decide) ?_
    obtain ⟨h2, hw⟩ := hw
    refine va_aldq hx hb hK hP 1 2 rfl rfl h2 dX3_save_48 ?_
    rcases c6 h2 with hc | hc | hc | hc | hc | hc
    · have hw := hw.1 hc
      refine W.eq (g2 := F0 m 49 ls [.ref qs0]) (by rw [hc]; rfl) ?_
      refine lv_aload_n hx hb dX3_save_49 rfl (lv_at hl 1 rfl) ?_
      refine kc_v (kr_V [] ⟨hx, hb, hml, hown, hts⟩ (cn_X1_copyFrom l G qs0 qs0b qs0e qs0f qd qdb qde qdf (sb 0) (se 0) (sf 0) (sc 0) (sp 0) (sk 0) db de df dc dp dk hw H.size) (cwV 1 hts gX3_save_X1_copyFrom rfl rfl rfl (by decide +kernel) ⟨Nat.le_of_ble_eq_true rfl, Nat.le_of_ble_eq_true rfl⟩) hK hG hP hD hS hA [2, 3, 4, 5, 26, 27, 28, 29] rfl rfl 1 2 rfl rfl rfl hl.1 rfl (Nat.le_of_ble_eq_true rfl) dX3_save_50 ⟨Nat.le_of_ble_eq_true rfl, Nat.le_of_ble_eq_true rfl⟩) hP hD hS hA [2, 3, 4, 5, 26, 27, 28, 29] [0, 1, 6, 7, 8, 9, 10, 11, 12, 13, 14, 15, 16, 17, 18, 19, 20, 21, 22, 23, 24, 25] rfl rfl rfl (by decide) (fun u H locs hw hP hD hS => ?_)
      obtain ⟨db_3, de_4, df_5, dc_6, dp_7, dk_8⟩ := u
      try dsimp only at hw
      have hP := hP.sub (ws' := (w0_X3_save G qs qsa qs0 qs0b qs0e qs0f qs1 qs1b qs1e qs1f qs2 qs2b qs2e qs2f qs3 qs3b qs3e qs3f qs4 qs4b qs4e qs4f qs5 qs5b qs5e qs5f qd qdb qde qdf so sn (va_up sb 0 db_3) (va_up se 0 de_4) (va_up sf 0 df_5) (va_up sc 0 dc_6) (va_up sp 0 dp_7) (va_up sk 0 dk_8) db de df dc dp dk)) [0, 1, 22, 23, 24, 25, 2, 3, 4, 5, 6, 7, 8, 9, 10, 11, 12, 13, 14, 15, 16, 17, 18, 19, 20, 21, 26, 27, 28, 29] rfl
      have hD := hD.sub (ws' := (w0_X3_save G qs qsa qs0 qs0b qs0e qs0f qs1 qs1b qs1e qs1f qs2 qs2b qs2e qs2f qs3 qs3b qs3e qs3f qs4 qs4b qs4e qs4f qs5 qs5b qs5e qs5f qd qdb qde qdf so sn (va_up sb 0 db_3) (va_up se 0 de_4) (va_up sf 0 df_5) (va_up sc 0 dc_6) (va_up sp 0 dp_7) (va_up sk 0 dk_8) db de df dc dp dk)) [0, 1, 22, 23, 24, 25, 2, 3, 4, 5, 6, 7, 8, 9, 10, 11, 12, 13, 14, 15, 16, 17, 18, 19, 20, 21, 26, 27, 28, 29] rfl rfl
      refine lv_aload_n hx hb dX3_save_53 rfl (lv_at hl 0 rfl) ?_
      refine lv_dup hx hb dX3_save_54 rfl ?_
      refine va_get (D := gD G) (ci := 3) (v := .int sn) (C := RX3) (T := TX3) (N := 3) hx hb hts k_X3_save_inX3 hown hK hP 0 rfl rfl 2 (by decide) (hts _ k_X3_save_f21) (fun _ h9 => h9) rfl dX3_save_55 ?_
      refine lv_iconst (v := 1) hx hb dX3_save_58 (by decide) ?_
      refine lv_iadd hx hb dX3_save_59 ?_
      refine va_put (D := gD G) (ci := 3) (v := .int (sn + (1 : Int32))) (ty := .int) (C := RX3) (T := TX3) (N := 3) hx hb hts k_X3_save_inX3 tyX3 tyX3_ok nmX3 hown hK hP hD hS 0 rfl rfl 2 (by decide) (hts _ k_X3_save_f21) (fun _ h9 => h9) rfl (by decide +kernel) rfl rfl (Nat.le_of_ble_eq_true rfl) dX3_save_60 (fun H locs hP hD hS => ?_)
      have hP : va_P (gD G) vwCl (w0_X3_save G qs qsa qs0 qs0b qs0e qs0f qs1 qs1b qs1e qs1f qs2 qs2b qs2e qs2f qs3 qs3b qs3e qs3f qs4 qs4b qs4e qs4f qs5 qs5b qs5e qs5f qd qdb qde qdf so (sn + (1 : Int32)) (va_up sb 0 db_3) (va_up se 0 de_4) (va_up sf 0 df_5) (va_up sc 0 dc_6) (va_up sp 0 dp_7) (va_up sk 0 dk_8) db de df dc dp dk) H := hP
      have hD : va_D A (w0_X3_save G qs qsa qs0 qs0b qs0e qs0f qs1 qs1b qs1e qs1f qs2 qs2b qs2e qs2f qs3 qs3b qs3e qs3f qs4 qs4b qs4e qs4f qs5 qs5b qs5e qs5f qd qdb qde qdf so (sn + (1 : Int32)) (va_up sb 0 db_3) (va_up se 0 de_4) (va_up sf 0 df_5) (va_up sc 0 dc_6) (va_up sp 0 dp_7) (va_up sk 0 dk_8) db de df dc dp dk) := hD
      exact fin_v (so, (sn + (1 : Int32)), (va_up sb 0 db_3), (va_up se 0 de_4), (va_up sf 0 df_5), (va_up sc 0 dc_6), (va_up sp 0 dp_7), (va_up sk 0 dk_8)) hx hb hr hlocks hK hS hP hD hw dX3_save_63
    · have hw := hw.2.1 hc
      refine W.eq (g2 := F0 m 49 ls [.ref qs1]) (by rw [hc]; rfl) ?_
      refine lv_aload_n hx hb dX3_save_49 rfl (lv_at hl 1 rfl) ?_
      refine kc_v (kr_V [] ⟨hx, hb, hml, hown, hts⟩ (cn_X1_copyFrom l G qs1 qs1b qs1e qs1f qd qdb qde qdf (sb 1) (se 1) (sf 1) (sc 1) (sp 1) (sk 1) db de df dc dp dk hw H.size) (cwV 1 hts gX3_save_X1_copyFrom rfl rfl rfl (by decide +kernel) ⟨Nat.le_of_ble_eq_true rfl, Nat.le_of_ble_eq_true rfl⟩) hK hG hP hD hS hA [6, 7, 8, 9, 26, 27, 28, 29] rfl rfl 1 6 rfl rfl rfl hl.1 rfl (Nat.le_of_ble_eq_true rfl) dX3_save_50 ⟨Nat.le_of_ble_eq_true rfl, Nat.le_of_ble_eq_true rfl⟩) hP hD hS hA [6, 7, 8, 9, 26, 27, 28, 29] [0, 1, 2, 3, 4, 5, 10, 11, 12, 13, 14, 15, 16, 17, 18, 19, 20, 21, 22, 23, 24, 25] rfl rfl rfl (by decide) (fun u H locs hw hP hD hS => ?_)
      obtain ⟨db_9, de_10, df_11, dc_12, dp_13, dk_14⟩ := u
      try dsimp only at hw
      have hP := hP.sub (ws' := (w0_X3_save G qs qsa qs0 qs0b qs0e qs0f qs1 qs1b qs1e qs1f qs2 qs2b qs2e qs2f qs3 qs3b qs3e qs3f qs4 qs4b qs4e qs4f qs5 qs5b qs5e qs5f qd qdb qde qdf so sn (va_up sb 1 db_9) (va_up se 1 de_10) (va_up sf 1 df_11) (va_up sc 1 dc_12) (va_up sp 1 dp_13) (va_up sk 1 dk_14) db de df dc dp dk)) [0, 1, 2, 3, 4, 5, 22, 23, 24, 25, 6, 7, 8, 9, 10, 11, 12, 13, 14, 15, 16, 17, 18, 19, 20, 21, 26, 27, 28, 29] rfl
      have hD := hD.sub (ws' := (w0_X3_save G qs qsa qs0 qs0b qs0e qs0f qs1 qs1b qs1e qs1f qs2 qs2b qs2e qs2f qs3 qs3b qs3e qs3f qs4 qs4b qs4e qs4f qs5 qs5b qs5e qs5f qd qdb qde qdf so sn (va_up sb 1 db_9) (va_up se 1 de_10) (va_up sf 1 df_11) (va_up sc 1 dc_12) (va_up sp 1 dp_13) (va_up sk 1 dk_14) db de df dc dp dk)) [0, 1, 2, 3, 4, 5, 22, 23, 24, 25, 6, 7, 8, 9, 10, 11, 12, 13, 14, 15, 16, 17, 18, 19, 20, 21, 26, 27, 28, 29] rfl rfl
      refine lv_aload_n hx hb dX3_save_53 rfl (lv_at hl 0 rfl) ?_
      refine lv_dup hx hb dX3_save_54 rfl ?_
      refine va_get (D := gD G) (ci := 3) (v := .int sn) (C := RX3) (T := TX3) (N := 3) hx hb hts k_X3_save_inX3 hown hK hP 0 rfl rfl 2 (by decide) (hts _ k_X3_save_f21) (fun _ h9 => h9) rfl dX3_save_55 ?_
      refine lv_iconst (v := 1) hx hb dX3_save_58 (by decide) ?_
      refine lv_iadd hx hb dX3_save_59 ?_
      refine va_put (D := gD G) (ci := 3) (v := .int (sn + (1 : Int32))) (ty := .int) (C := RX3) (T := TX3) (N := 3) hx hb hts k_X3_save_inX3 tyX3 tyX3_ok nmX3 hown hK hP hD hS 0 rfl rfl 2 (by decide) (hts _ k_X3_save_f21) (fun _ h9 => h9) rfl (by decide +kernel) rfl rfl (Nat.le_of_ble_eq_true rfl) dX3_save_60 (fun H locs hP hD hS => ?_)
      have hP : va_P (gD G) vwCl (w0_X3_save G qs qsa qs0 qs0b qs0e qs0f qs1 qs1b qs1e qs1f qs2 qs2b qs2e qs2f qs3 qs3b qs3e qs3f qs4 qs4b qs4e qs4f qs5 qs5b qs5e qs5f qd qdb qde qdf so (sn + (1 : Int32)) (va_up sb 1 db_9) (va_up se 1 de_10) (va_up sf 1 df_11) (va_up sc 1 dc_12) (va_up sp 1 dp_13) (va_up sk 1 dk_14) db de df dc dp dk) H := hP
      have hD : va_D A (w0_X3_save G qs qsa qs0 qs0b qs0e qs0f qs1 qs1b qs1e qs1f qs2 qs2b qs2e qs2f qs3 qs3b qs3e qs3f qs4 qs4b qs4e qs4f qs5 qs5b qs5e qs5f qd qdb qde qdf so (sn + (1 : Int32)) (va_up sb 1 db_9) (va_up se 1 de_10) (va_up sf 1 df_11) (va_up sc 1 dc_12) (va_up sp 1 dp_13) (va_up sk 1 dk_14) db de df dc dp dk) := hD
      exact fin_v (so, (sn + (1 : Int32)), (va_up sb 1 db_9), (va_up se 1 de_10), (va_up sf 1 df_11), (va_up sc 1 dc_12), (va_up sp 1 dp_13), (va_up sk 1 dk_14)) hx hb hr hlocks hK hS hP hD hw dX3_save_63
    · have hw := hw.2.2.1 hc
      refine W.eq (g2 := F0 m 49 ls [.ref qs2]) (by rw [hc]; rfl) ?_
      refine lv_aload_n hx hb dX3_save_49 rfl (lv_at hl 1 rfl) ?_
      refine kc_v (kr_V [] ⟨hx, hb, hml, hown, hts⟩ (cn_X1_copyFrom l G qs2 qs2b qs2e qs2f qd qdb qde qdf (sb 2) (se 2) (sf 2) (sc 2) (sp 2) (sk 2) db de df dc dp dk hw H.size) (cwV 1 hts gX3_save_X1_copyFrom rfl rfl rfl (by decide +kernel) ⟨Nat.le_of_ble_eq_true rfl, Nat.le_of_ble_eq_true rfl⟩) hK hG hP hD hS hA [10, 11, 12, 13, 26, 27, 28, 29] rfl rfl 1 10 rfl rfl rfl hl.1 rfl (Nat.le_of_ble_eq_true rfl) dX3_save_50 ⟨Nat.le_of_ble_eq_true rfl, Nat.le_of_ble_eq_true rfl⟩) hP hD hS hA [10, 11, 12, 13, 26, 27, 28, 29] [0, 1, 2, 3, 4, 5, 6, 7, 8, 9, 14, 15, 16, 17, 18, 19, 20, 21, 22, 23, 24, 25] rfl rfl rfl (by decide) (fun u H locs hw hP hD hS => ?_)
      obtain ⟨db_15, de_16, df_17, dc_18, dp_19, dk_20⟩ := u
      try dsimp only at hw
      have hP := hP.sub (ws' := (w0_X3_save G qs qsa qs0 qs0b qs0e qs0f qs1 qs1b qs1e qs1f qs2 qs2b qs2e qs2f qs3 qs3b qs3e qs3f qs4 qs4b qs4e qs4f qs5 qs5b qs5e qs5f qd qdb qde qdf so sn (va_up sb 2 db_15) (va_up se 2 de_16) (va_up sf 2 df_17) (va_up sc 2 dc_18) (va_up sp 2 dp_19) (va_up sk 2 dk_20) db de df dc dp dk)) [0, 1, 2, 3, 4, 5, 6, 7, 8, 9, 22, 23, 24, 25, 10, 11, 12, 13, 14, 15, 16, 17, 18, 19, 20, 21, 26, 27, 28, 29] rfl
      have hD := hD.sub (ws' := (w0_X3_save G qs qsa qs0 qs0b qs0e qs0f qs1 qs1b qs1e qs1f qs2 qs2b qs2e qs2f qs3 qs3b qs3e qs3f qs4 qs4b qs4e qs4f qs5 qs5b qs5e qs5f qd qdb qde qdf so sn (va_up sb 2 db_15) (va_up se 2 de_16) (va_up sf 2 df_17) (va_up sc 2 dc_18) (va_up sp 2 dp_19) (va_up sk 2 dk_20) db de df dc dp dk)) [0, 1, 2, 3, 4, 5, 6, 7, 8, 9, 22, 23, 24, 25, 10, 11, 12, 13, 14, 15, 16, 17, 18, 19, 20, 21, 26, 27, 28, 29] rfl rfl
      refine lv_aload_n hx hb dX3_save_53 rfl (lv_at hl 0 rfl) ?_
      refine lv_dup hx hb dX3_save_54 rfl ?_
      refine va_get (D := gD G) (ci := 3) (v := .int sn) (C := RX3) (T := TX3) (N := 3) hx hb hts k_X3_save_inX3 hown hK hP 0 rfl rfl 2 (by decide) (hts _ k_X3_save_f21) (fun _ h9 => h9) rfl dX3_save_55 ?_
      refine lv_iconst (v := 1) hx hb dX3_save_58 (by decide) ?_
      refine lv_iadd hx hb dX3_save_59 ?_
      refine va_put (D := gD G) (ci := 3) (v := .int (sn + (1 : Int32))) (ty := .int) (C := RX3) (T := TX3) (N := 3) hx hb hts k_X3_save_inX3 tyX3 tyX3_ok nmX3 hown hK hP hD hS 0 rfl rfl 2 (by decide) (hts _ k_X3_save_f21) (fun _ h9 => h9) rfl (by decide +kernel) rfl rfl (Nat.le_of_ble_eq_true rfl) dX3_save_60 (fun H locs hP hD hS => ?_)
      have hP : va_P (gD G) vwCl (w0_X3_save G qs qsa qs0 qs0b qs0e qs0f qs1 qs1b qs1e qs1f qs2 qs2b qs2e qs2f qs3 qs3b qs3e qs3f qs4 qs4b qs4e qs4f qs5 qs5b qs5e qs5f qd qdb qde qdf so (sn + (1 : Int32)) (va_up sb 2 db_15) (va_up se 2 de_16) (va_up sf 2 df_17) (va_up sc 2 dc_18) (va_up sp 2 dp_19) (va_up sk 2 dk_20) db de df dc dp dk) H := hP
      have hD : va_D A (w0_X3_save G qs qsa qs0 qs0b qs0e qs0f qs1 qs1b qs1e qs1f qs2 qs2b qs2e qs2f qs3 qs3b qs3e qs3f qs4 qs4b qs4e qs4f qs5 qs5b qs5e qs5f qd qdb qde qdf so (sn + (1 : Int32)) (va_up sb 2 db_15) (va_up se 2 de_16) (va_up sf 2 df_17) (va_up sc 2 dc_18) (va_up sp 2 dp_19) (va_up sk 2 dk_20) db de df dc dp dk) := hD
      exact fin_v (so, (sn + (1 : Int32)), (va_up sb 2 db_15), (va_up se 2 de_16), (va_up sf 2 df_17), (va_up sc 2 dc_18), (va_up sp 2 dp_19), (va_up sk 2 dk_20)) hx hb hr hlocks hK hS hP hD hw dX3_save_63
    · have hw := hw.2.2.2.1 hc
      refine W.eq (g2 := F0 m 49 ls [.ref qs3]) (by rw [hc]; rfl) ?_
      refine lv_aload_n hx hb dX3_save_49 rfl (lv_at hl 1 rfl) ?_
      refine kc_v (kr_V [] ⟨hx, hb, hml, hown, hts⟩ (cn_X1_copyFrom l G qs3 qs3b qs3e qs3f qd qdb qde qdf (sb 3) (se 3) (sf 3) (sc 3) (sp 3) (sk 3) db de df dc dp dk hw H.size) (cwV 1 hts gX3_save_X1_copyFrom rfl rfl rfl (by decide +kernel) ⟨Nat.le_of_ble_eq_true rfl, Nat.le_of_ble_eq_true rfl⟩) hK hG hP hD hS hA [14, 15, 16, 17, 26, 27, 28, 29] rfl rfl 1 14 rfl rfl rfl hl.1 rfl (Nat.le_of_ble_eq_true rfl) dX3_save_50 ⟨Nat.le_of_ble_eq_true rfl, Nat.le_of_ble_eq_true rfl⟩) hP hD hS hA [14, 15, 16, 17, 26, 27, 28, 29] [0, 1, 2, 3, 4, 5, 6, 7, 8, 9, 10, 11, 12, 13, 18, 19, 20, 21, 22, 23, 24, 25] rfl rfl rfl (by decide) (fun u H locs hw hP hD hS => ?_)
      obtain ⟨db_21, de_22, df_23, dc_24, dp_25, dk_26⟩ := u
      try dsimp only at hw
      have hP := hP.sub (ws' := (w0_X3_save G qs qsa qs0 qs0b qs0e qs0f qs1 qs1b qs1e qs1f qs2 qs2b qs2e qs2f qs3 qs3b qs3e qs3f qs4 qs4b qs4e qs4f qs5 qs5b qs5e qs5f qd qdb qde qdf so sn (va_up sb 3 db_21) (va_up se 3 de_22) (va_up sf 3 df_23) (va_up sc 3 dc_24) (va_up sp 3 dp_25) (va_up sk 3 dk_26) db de df dc dp dk)) [0, 1, 2, 3, 4, 5, 6, 7, 8, 9, 10, 11, 12, 13, 22, 23, 24, 25, 14, 15, 16, 17, 18, 19, 20, 21, 26, 27, 28, 29] rfl
      have hD := hD.sub (ws' := (w0_X3_save G qs qsa qs0 qs0b qs0e qs0f qs1 qs1b qs1e qs1f qs2 qs2b qs2e qs2f qs3 qs3b qs3e qs3f qs4 qs4b qs4e qs4f qs5 qs5b qs5e qs5f qd qdb qde qdf so sn (va_up sb 3 db_21) (va_up se 3 de_22) (va_up sf 3 df_23) (va_up sc 3 dc_24) (va_up sp 3 dp_25) (va_up sk 3 dk_26) db de df dc dp dk)) [0, 1, 2, 3, 4, 5, 6, 7, 8, 9, 10, 11, 12, 13, 22, 23, 24, 25, 14, 15, 16, 17, 18, 19, 20, 21, 26, 27, 28, 29] rfl rfl
      refine lv_aload_n hx hb dX3_save_53 rfl (lv_at hl 0 rfl) ?_
      refine lv_dup hx hb dX3_save_54 rfl ?_
      refine va_get (D := gD G) (ci := 3) (v := .int sn) (C := RX3) (T := TX3) (N := 3) hx hb hts k_X3_save_inX3 hown hK hP 0 rfl rfl 2 (by decide) (hts _ k_X3_save_f21) (fun _ h9 => h9) rfl dX3_save_55 ?_
      refine lv_iconst (v := 1) hx hb dX3_save_58 (by decide) ?_
      refine lv_iadd hx hb dX3_save_59 ?_
      refine va_put (D := gD G) (ci := 3) (v := .int (sn + (1 : Int32))) (ty := .int) (C := RX3) (T := TX3) (N := 3) hx hb hts k_X3_save_inX3 tyX3 tyX3_ok nmX3 hown hK hP hD hS 0 rfl rfl 2 (by decide) (hts _ k_X3_save_f21) (fun _ h9 => h9) rfl (by decide +kernel) rfl rfl (Nat.le_of_ble_eq_true rfl) dX3_save_60 (fun H locs hP hD hS => ?_)
      have hP : va_P (gD G) vwCl (w0_X3_save G qs qsa qs0 qs0b qs0e qs0f qs1 qs1b qs1e qs1f qs2 qs2b qs2e qs2f qs3 qs3b qs3e qs3f qs4 qs4b qs4e qs4f qs5 qs5b qs5e qs5f qd qdb qde qdf so (sn + (1 : Int32)) (va_up sb 3 db_21) (va_up se 3 de_22) (va_up sf 3 df_23) (va_up sc 3 dc_24) (va_up sp 3 dp_25) (va_up sk 3 dk_26) db de df dc dp dk) H := hP
      have hD : va_D A (w0_X3_save G qs qsa qs0 qs0b qs0e qs0f qs1 qs1b qs1e qs1f qs2 qs2b qs2e qs2f qs3 qs3b qs3e qs3f qs4 qs4b qs4e qs4f qs5 qs5b qs5e qs5f qd qdb qde qdf so (sn + (1 : Int32)) (va_up sb 3 db_21) (va_up se 3 de_22) (va_up sf 3 df_23) (va_up sc 3 dc_24) (va_up sp 3 dp_25) (va_up sk 3 dk_26) db de df dc dp dk) := hD
      exact fin_v (so, (sn + (1 : Int32)), (va_up sb 3 db_21), (va_up se 3 de_22), (va_up sf 3 df_23), (va_up sc 3 dc_24), (va_up sp 3 dp_25), (va_up sk 3 dk_26)) hx hb hr hlocks hK hS hP hD hw dX3_save_63
    · have hw := hw.2.2.2.2.1 hc
      refine W.eq (g2 := F0 m 49 ls [.ref qs4]) (by rw [hc]; rfl) ?_
      refine lv_aload_n hx hb dX3_save_49 rfl (lv_at hl 1 rfl) ?_
      refine kc_v (kr_V [] ⟨hx, hb, hml, hown, hts⟩ (cn_X1_copyFrom l G qs4 qs4b qs4e qs4f qd qdb qde qdf (sb 4) (se 4) (sf 4) (sc 4) (sp 4) (sk 4) db de df dc dp dk hw H.size) (cwV 1 hts gX3_save_X1_copyFrom rfl rfl rfl (by decide +kernel) ⟨Nat.le_of_ble_eq_true rfl, Nat.le_of_ble_eq_true rfl⟩) hK hG hP hD hS hA [18, 19, 20, 21, 26, 27, 28, 29] rfl rfl 1 18 rfl rfl rfl hl.1 rfl (Nat.le_of_ble_eq_true rfl) dX3_save_50 ⟨Nat.le_of_ble_eq_true rfl, Nat.le_of_ble_eq_true rfl⟩) hP hD hS hA [18, 19, 20, 21, 26, 27, 28, 29] [0, 1, 2, 3, 4, 5, 6, 7, 8, 9, 10, 11, 12, 13, 14, 15, 16, 17, 22, 23, 24, 25] rfl rfl rfl (by decide) (fun u H locs hw hP hD hS => ?_)
      obtain ⟨db_27, de_28, df_29, dc_30, dp_31, dk_32⟩ := u
      try dsimp only at hw
      have hP := hP.sub (ws' := (w0_X3_save G qs qsa qs0 qs0b qs0e qs0f qs1 qs1b qs1e qs1f qs2 qs2b qs2e qs2f qs3 qs3b qs3e qs3f qs4 qs4b qs4e qs4f qs5 qs5b qs5e qs5f qd qdb qde qdf so sn (va_up sb 4 db_27) (va_up se 4 de_28) (va_up sf 4 df_29) (va_up sc 4 dc_30) (va_up sp 4 dp_31) (va_up sk 4 dk_32) db de df dc dp dk)) [0, 1, 2, 3, 4, 5, 6, 7, 8, 9, 10, 11, 12, 13, 14, 15, 16, 17, 22, 23, 24, 25, 18, 19, 20, 21, 26, 27, 28, 29] rfl
      have hD := hD.sub (ws' := (w0_X3_save G qs qsa qs0 qs0b qs0e qs0f qs1 qs1b qs1e qs1f qs2 qs2b qs2e qs2f qs3 qs3b qs3e qs3f qs4 qs4b qs4e qs4f qs5 qs5b qs5e qs5f qd qdb qde qdf so sn (va_up sb 4 db_27) (va_up se 4 de_28) (va_up sf 4 df_29) (va_up sc 4 dc_30) (va_up sp 4 dp_31) (va_up sk 4 dk_32) db de df dc dp dk)) [0, 1, 2, 3, 4, 5, 6, 7, 8, 9, 10, 11, 12, 13, 14, 15, 16, 17, 22, 23, 24, 25, 18, 19, 20, 21, 26, 27, 28, 29] rfl rfl
      refine lv_aload_n hx hb dX3_save_53 rfl (lv_at hl 0 rfl) ?_
      refine lv_dup hx hb dX3_save_54 rfl ?_
      refine va_get (D := gD G) (ci := 3) (v := .int sn) (C := RX3) (T := TX3) (N := 3) hx hb hts k_X3_save_inX3 hown hK hP 0 rfl rfl 2 (by decide) (hts _ k_X3_save_f21) (fun _ h9 => h9) rfl dX3_save_55 ?_
      refine lv_iconst (v := 1) hx hb dX3_save_58 (by decide) ?_
      refine lv_iadd hx hb dX3_save_59 ?_
      refine va_put (D := gD G) (ci := 3) (v := .int (sn + (1 : Int32))) (ty := .int) (C := RX3) (T := TX3) (N := 3) hx hb hts k_X3_save_inX3 tyX3 tyX3_ok nmX3 hown hK hP hD hS 0 rfl rfl 2 (by decide) (hts _ k_X3_save_f21) (fun _ h9 => h9) rfl (by decide +kernel) rfl rfl (Nat.le_of_ble_eq_true rfl) dX3_save_60 (fun H locs hP hD hS => ?_)
      have hP : va_P (gD G) vwCl (w0_X3_save G qs qsa qs0 qs0b qs0e qs0f qs1 qs1b qs1e qs1f qs2 qs2b qs2e qs2f qs3 qs3b qs3e qs3f qs4 qs4b qs4e qs4f qs5 qs5b qs5e qs5f qd qdb qde qdf so (sn + (1 : Int32)) (va_up sb 4 db_27) (va_up se 4 de_28) (va_up sf 4 df_29) (va_up sc 4 dc_30) (va_up sp 4 dp_31) (va_up sk 4 dk_32) db de df dc dp dk) H := hP
      have hD : va_D A (w0_X3_save G qs qsa qs0 qs0b qs0e qs0f qs1 qs1b qs1e qs1f qs2 qs2b qs2e qs2f qs3 qs3b qs3e qs3f qs4 qs4b qs4e qs4f qs5 qs5b qs5e qs5f qd qdb qde qdf so (sn + (1 : Int32)) (va_up sb 4 db_27) (va_up se 4 de_28) (va_up sf 4 df_29) (va_up sc 4 dc_30) (va_up sp 4 dp_31) (va_up sk 4 dk_32) db de df dc dp dk) := hD
      exact fin_v (so, (sn + (1 : Int32)), (va_up sb 4 db_27), (va_up se 4 de_28), (va_up sf 4 df_29), (va_up sc 4 dc_30), (va_up sp 4 dp_31), (va_up sk 4 dk_32)) hx hb hr hlocks hK hS hP hD hw dX3_save_63
    · have hw := hw.2.2.2.2.2 hc
      refine W.eq (g2 := F0 m 49 ls [.ref qs5]) (by rw [hc]; rfl) ?_
      refine lv_aload_n hx hb dX3_save_49 rfl (lv_at hl 1 rfl) ?_
      refine kc_v (kr_V [] ⟨hx, hb, hml, hown, hts⟩ (cn_X1_copyFrom l G qs5 qs5b qs5e qs5f qd qdb qde qdf (sb 5) (se 5) (sf 5) (sc 5) (sp 5) (sk 5) db de df dc dp dk hw H.size) (cwV 1 hts gX3_save_X1_copyFrom rfl rfl rfl (by decide +kernel) ⟨Nat.le_of_ble_eq_true rfl, Nat.le_of_ble_eq_true rfl⟩) hK hG hP hD hS hA [22, 23, 24, 25, 26, 27, 28, 29] rfl rfl 1 22 rfl rfl rfl hl.1 rfl (Nat.le_of_ble_eq_true rfl) dX3_save_50 ⟨Nat.le_of_ble_eq_true rfl, Nat.le_of_ble_eq_true rfl⟩) hP hD hS hA [22, 23, 24, 25, 26, 27, 28, 29] [0, 1, 2, 3, 4, 5, 6, 7, 8, 9, 10, 11, 12, 13, 14, 15, 16, 17, 18, 19, 20, 21] rfl rfl rfl (by decide) (fun u H locs hw hP hD hS => ?_)
      obtain ⟨db_33, de_34, df_35, dc_36, dp_37, dk_38⟩ := u
      try dsimp only at hw
      have hP := hP.sub (ws' := (w0_X3_save G qs qsa qs0 qs0b qs0e qs0f qs1 qs1b qs1e qs1f qs2 qs2b qs2e qs2f qs3 qs3b qs3e qs3f qs4 qs4b qs4e qs4f qs5 qs5b qs5e qs5f qd qdb qde qdf so sn (va_up sb 5 db_33) (va_up se 5 de_34) (va_up sf 5 df_35) (va_up sc 5 dc_36) (va_up sp 5 dp_37) (va_up sk 5 dk_38) db de df dc dp dk)) [0, 1, 2, 3, 4, 5, 6, 7, 8, 9, 10, 11, 12, 13, 14, 15, 16, 17, 18, 19, 20, 21, 22, 23, 24, 25, 26, 27, 28, 29] rfl
      have hD := hD.sub (ws' := (w0_X3_save G qs qsa qs0 qs0b qs0e qs0f qs1 qs1b qs1e qs1f qs2 qs2b qs2e qs2f qs3 qs3b qs3e qs3f qs4 qs4b qs4e qs4f qs5 qs5b qs5e qs5f qd qdb qde qdf so sn (va_up sb 5 db_33) (va_up se 5 de_34) (va_up sf 5 df_35) (va_up sc 5 dc_36) (va_up sp 5 dp_37) (va_up sk 5 dk_38) db de df dc dp dk)) [0, 1, 2, 3, 4, 5, 6, 7, 8, 9, 10, 11, 12, 13, 14, 15, 16, 17, 18, 19, 20, 21, 22, 23, 24, 25, 26, 27, 28, 29] rfl rfl
      refine lv_aload_n hx hb dX3_save_53 rfl (lv_at hl 0 rfl) ?_
      refine lv_dup hx hb dX3_save_54 rfl ?_
      refine va_get (D := gD G) (ci := 3) (v := .int sn) (C := RX3) (T := TX3) (N := 3) hx hb hts k_X3_save_inX3 hown hK hP 0 rfl rfl 2 (by decide) (hts _ k_X3_save_f21) (fun _ h9 => h9) rfl dX3_save_55 ?_
      refine lv_iconst (v := 1) hx hb dX3_save_58 (by decide) ?_
      refine lv_iadd hx hb dX3_save_59 ?_
      refine va_put (D := gD G) (ci := 3) (v := .int (sn + (1 : Int32))) (ty := .int) (C := RX3) (T := TX3) (N := 3) hx hb hts k_X3_save_inX3 tyX3 tyX3_ok nmX3 hown hK hP hD hS 0 rfl rfl 2 (by decide) (hts _ k_X3_save_f21) (fun _ h9 => h9) rfl (by decide +kernel) rfl rfl (Nat.le_of_ble_eq_true rfl) dX3_save_60 (fun H locs hP hD hS => ?_)
      have hP : va_P (gD G) vwCl (w0_X3_save G qs qsa qs0 qs0b qs0e qs0f qs1 qs1b qs1e qs1f qs2 qs2b qs2e qs2f qs3 qs3b qs3e qs3f qs4 qs4b qs4e qs4f qs5 qs5b qs5e qs5f qd qdb qde qdf so (sn + (1 : Int32)) (va_up sb 5 db_33) (va_up se 5 de_34) (va_up sf 5 df_35) (va_up sc 5 dc_36) (va_up sp 5 dp_37) (va_up sk 5 dk_38) db de df dc dp dk) H := hP
      have hD : va_D A (w0_X3_save G qs qsa qs0 qs0b qs0e qs0f qs1 qs1b qs1e qs1f qs2 qs2b qs2e qs2f qs3 qs3b qs3e qs3f qs4 qs4b qs4e qs4f qs5 qs5b qs5e qs5f qd qdb qde qdf so (sn + (1 : Int32)) (va_up sb 5 db_33) (va_up se 5 de_34) (va_up sf 5 df_35) (va_up sc 5 dc_36) (va_up sp 5 dp_37) (va_up sk 5 dk_38) db de df dc dp dk) := hD
      exact fin_v (so, (sn + (1 : Int32)), (va_up sb 5 db_33), (va_up se 5 de_34), (va_up sf 5 df_35), (va_up sc 5 dc_36), (va_up sp 5 dp_37), (va_up sk 5 dk_38)) hx hb hr hlocks hK hS hP hD hw dX3_save_63
  unfold wn_X3_save at hw
  refine lv_aload_n hx hb dX3_save_0 rfl (lv_at hl 0 rfl) ?_
  refine va_get (D := gD G) (ci := 3) (v := .int sn) (C := RX3) (T := TX3) (N := 3) hx hb hts k_X3_save_inX3 hown hK hP 0 rfl rfl 2 (by decide) (hts _ k_X3_save_f21) (fun _ h9 => h9) rfl dX3_save_1 ?_
  refine lv_bipush (v := 6) hx hb dX3_save_4 (by decide) ?_
  refine lv_icmp_ne (tgt := 32) hx hb dX3_save_6 (by decide) (fun c1 => ?_) (fun c1 => ?_)
  · have hw := hw.1 c1
    exact J32 so sn sb se sf sc sp sk _ _ _ hP hD hS hl hw
  · have hw := hw.2 c1
    refine lv_aload_n hx hb dX3_save_9 rfl (lv_at hl 0 rfl) ?_
    refine lv_aload_n hx hb dX3_save_10 rfl (lv_at hl 0 rfl) ?_
    refine va_get (D := gD G) (ci := 3) (v := .int so) (C := RX3) (T := TX3) (N := 3) hx hb hts k_X3_save_inX3 hown hK hP 0 rfl rfl 1 (by decide) (hts _ k_X3_save_f17) (fun _ h9 => h9) rfl dX3_save_11 ?_
    refine lv_iconst (v := 1) hx hb dX3_save_14 (by decide) ?_
    refine lv_iadd hx hb dX3_save_15 ?_
    refine lv_bipush (v := 6) hx hb dX3_save_16 (by decide) ?_
    refine lv_irem hx hb dX3_save_18 (by decide) ?_
    refine va_put (D := gD G) (ci := 3) (v := .int ((so + (1 : Int32)) - (so + (1 : Int32)) / (6 : Int32) * (6 : Int32))) (ty := .int) (C := RX3) (T := TX3) (N := 3) hx hb hts k_X3_save_inX3 tyX3 tyX3_ok nmX3 hown hK hP hD hS 0 rfl rfl 1 (by decide) (hts _ k_X3_save_f17) (fun _ h9 => h9) rfl (by decide +kernel) rfl rfl (Nat.le_of_ble_eq_true rfl) dX3_save_19 (fun H locs hP hD hS => ?_)
    have hP : va_P (gD G) vwCl (w0_X3_save G qs qsa qs0 qs0b qs0e qs0f qs1 qs1b qs1e qs1f qs2 qs2b qs2e qs2f qs3 qs3b qs3e qs3f qs4 qs4b qs4e qs4f qs5 qs5b qs5e qs5f qd qdb qde qdf ((so + (1 : Int32)) - (so + (1 : Int32)) / (6 : Int32) * (6 : Int32)) sn sb se sf sc sp sk db de df dc dp dk) H := hP
    have hD : va_D A (w0_X3_save G qs qsa qs0 qs0b qs0e qs0f qs1 qs1b qs1e qs1f qs2 qs2b qs2e qs2f qs3 qs3b qs3e qs3f qs4 qs4b qs4e qs4f qs5 qs5b qs5e qs5f qd qdb qde qdf ((so + (1 : Int32)) - (so + (1 : Int32)) / (6 : Int32) * (6 : Int32)) sn sb se sf sc sp sk db de df dc dp dk) := hD
    refine lv_aload_n hx hb dX3_save_22 rfl (lv_at hl 0 rfl) ?_
    refine lv_dup hx hb dX3_save_23 rfl ?_
    refine va_get (D := gD G) (ci := 3) (v := .int sn) (C := RX3) (T := TX3) (N := 3) hx hb hts k_X3_save_inX3 hown hK hP 0 rfl rfl 2 (by decide) (hts _ k_X3_save_f21) (fun _ h9 => h9) rfl dX3_save_24 ?_
    refine lv_iconst (v := 1) hx hb dX3_save_27 (by decide) ?_
    refine lv_isub hx hb dX3_save_28 ?_
    refine va_put (D := gD G) (ci := 3) (v := .int (sn - (1 : Int32))) (ty := .int) (C := RX3) (T := TX3) (N := 3) hx hb hts k_X3_save_inX3 tyX3 tyX3_ok nmX3 hown hK hP hD hS 0 rfl rfl 2 (by decide) (hts _ k_X3_save_f21) (fun _ h9 => h9) rfl (by decide +kernel) rfl rfl (Nat.le_of_ble_eq_true rfl) dX3_save_29 (fun H locs hP hD hS => ?_)
    have hP : va_P (gD G) vwCl (w0_X3_save G qs qsa qs0 qs0b qs0e qs0f qs1 qs1b qs1e qs1f qs2 qs2b qs2e qs2f qs3 qs3b qs3e qs3f qs4 qs4b qs4e qs4f qs5 qs5b qs5e qs5f qd qdb qde qdf ((so + (1 : Int32)) - (so + (1 : Int32)) / (6 : Int32) * (6 : Int32)) (sn - (1 : Int32)) sb se sf sc sp sk db de df dc dp dk) H := hP
    have hD : va_D A (w0_X3_save G qs qsa qs0 qs0b qs0e qs0f qs1 qs1b qs1e qs1f qs2 qs2b qs2e qs2f qs3 qs3b qs3e qs3f qs4 qs4b qs4e qs4f qs5 qs5b qs5e qs5f qd qdb qde qdf ((so + (1 : Int32)) - (so + (1 : Int32)) / (6 : Int32) * (6 : Int32)) (sn - (1 : Int32)) sb se sf sc sp sk db de df dc dp dk) := hD
    exact J32 ((so + (1 : Int32)) - (so + (1 : Int32)) / (6 : Int32) * (6 : Int32)) (sn - (1 : Int32)) sb se sf sc sp sk _ _ _ hP hD hS hl hw
