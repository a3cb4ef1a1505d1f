def wn_X5_bit (a0 : Int32) (Q : Int32 → Prop) : Prop :=
  (Q ((1 : Int32) <<< (a0 &&& 31)))
def wn_X5_isIn (a0 : Int32) (a1 : Int32) (Q : Int32 → Prop) : Prop :=
  (wn_X5_bit a1 (fun (r1 : Int32) => (((a0 &&& r1) = 0 → (Q (0 : Int32))) ∧ (¬ (a0 &&& r1) = 0 → (Q (1 : Int32))))))
def wn_X0_tryDownFrom (uu : Nat → Int32) (vv : Nat → Int32) : Nat → Int32 → Int32 → (Int32 → Prop) → Prop
  | 0, _, _, _ => False
  | n + 1, a0, a3, Q =>
    ((a0 < 0 → (Q (0 : Int32))) ∧ (¬ a0 < 0 → ((a0 < (14 : Int32) → (wn_X0_tryDownFrom uu vv n (a0 - (1 : Int32)) a3 (fun (r3 : Int32) => (wn_X5_isIn a3 a0 (fun (r4 : Int32) => ((r4 = 0 → (vp_in a0 14 ∧ (vp_in a0 14 ∧ (wn_X0_tryDownFrom uu vv n (a0 - (1 : Int32)) (a3 ||| (vv a0.toNatClampNeg)) (fun (r8 : Int32) => (Q (if ((uu a0.toNatClampNeg) + r8) < r3 then r3 else ((uu a0.toNatClampNeg) + r8)))))))) ∧ (¬ r4 = 0 → (Q r3)))))))) ∧ (¬ a0 < (14 : Int32) → (Q (0 : Int32))))))
def wn_X1_clashWithTimes (db : Nat → Int32) (de : Nat → Int32) (a1 : Int32) (a2 : Int32) (a3 : Int32) (a4 : Int32) (Q : Int32 → Prop) : Prop :=
  (vp_in a1 14 ∧ ((((de a1.toNatClampNeg) + a4) ≤ a2 → (Q (0 : Int32))) ∧ (¬ ((de a1.toNatClampNeg) + a4) ≤ a2 → (vp_in a1 14 ∧ (((a3 + a4) ≤ (db a1.toNatClampNeg) → (Q (0 : Int32))) ∧ (¬ (a3 + a4) ≤ (db a1.toNatClampNeg) → (Q (1 : Int32))))))))
def wn_X1_clash (db : Nat → Int32) (de : Nat → Int32) (dp : Int32) (a1 : Int32) (a2 : Int32) (Q : Int32 → Prop) : Prop :=
  ((a1 = a2 → (Q (0 : Int32))) ∧ (¬ a1 = a2 → (vp_in a2 14 ∧ (vp_in a2 14 ∧ (wn_X1_clashWithTimes db de a1 (db a2.toNatClampNeg) (de a2.toNatClampNeg) dp (fun (r4 : Int32) => ((r4 = 0 → (Q (0 : Int32))) ∧ (¬ r4 = 0 → (Q (1 : Int32))))))))))
def wl_n_X1_conflictsWith_4 (db : Nat → Int32) (de : Nat → Int32) (dc : Int32) (dp : Int32) (Q : Int32 → Prop) : Nat → Int32 → Int32 → Int32 → Prop
  | 0, _, _, _ => False
  | n + 1, x1, x2, x3 =>
    ((dc ≤ x3 → (Q x2)) ∧ (¬ dc ≤ x3 → (wn_X1_clash db de dp x1 x3 (fun (r2 : Int32) => ((r2 = 0 → (wl_n_X1_conflictsWith_4 db de dc dp Q n x1 x2 (x3 + 1))) ∧ (¬ r2 = 0 → (wn_X5_bit x3 (fun (r4 : Int32) => (wl_n_X1_conflictsWith_4 db de dc dp Q n x1 (x2 ||| r4) (x3 + 1))))))))))
def wn_X1_conflictsWith (db : Nat → Int32) (de : Nat → Int32) (dc : Int32) (dp : Int32) (a1 : Int32) (Q : Int32 → Prop) : Prop :=
  (∃ fu4, wl_n_X1_conflictsWith_4 db de dc dp Q fu4 a1 (0 : Int32) (0 : Int32))
def wl_n_X0_triedFame_2 (db : Nat → Int32) (de : Nat → Int32) (df : Nat → Int32) (dc : Int32) (dp : Int32) (Q : Int32 → (Nat → Int32) → Prop) : Nat → (Nat → Int32) → Int32 → Prop
  | 0, _, _ => False
  | n + 1, hc, x2 =>
    ((dc ≤ x2 → (wn_X0_tryDownFrom df hc 16 (dc - (1 : Int32)) (0 : Int32) (fun (r2 : Int32) => (Q r2 hc)))) ∧ (¬ dc ≤ x2 → (wn_X1_conflictsWith db de dc dp x2 (fun (r3 : Int32) => (vp_in x2 14 ∧ (wl_n_X0_triedFame_2 db de df dc dp Q n (upd hc x2.toNatClampNeg r3) (x2 + 1)))))))
def wn_X0_triedFame (hc : Nat → Int32) (db : Nat → Int32) (de : Nat → Int32) (df : Nat → Int32) (dc : Int32) (dp : Int32) (Q : Int32 → (Nat → Int32) → Prop) : Prop :=
  (∃ fu2, wl_n_X0_triedFame_2 db de df dc dp Q fu2 hc (0 : Int32))
def wj_n_X5_orderBy_45 (uu : Nat → Int32) (Q : (Nat → Int32) → Prop) (k2 : (Nat → Int32) → Int32 → Int32 → Prop) (vv : Nat → Int32) (x1 : Int32) (x3 : Int32) (x4 : Int32) : Prop :=
    (vp_in x4 14 ∧ (k2 (upd vv x4.toNatClampNeg x3) x1 (x3 + 1)))
def wl_n_X5_orderBy_10 (uu : Nat → Int32) (Q : (Nat → Int32) → Prop) (k2 : (Nat → Int32) → Int32 → Int32 → Prop) : Nat → (Nat → Int32) → Int32 → Int32 → Int32 → Prop
  | 0, _, _, _, _ => False
  | n + 1, vv, x1, x3, x4 =>
    ((x4 ≤ 0 → (wj_n_X5_orderBy_45 uu Q k2 vv x1 x3 x4)) ∧ (¬ x4 ≤ 0 → (vp_in (x4 - (1 : Int32)) 14 ∧ (vp_in (vv (x4 - (1 : Int32)).toNatClampNeg) 14 ∧ (vp_in x3 14 ∧ (((uu (vv (x4 - (1 : Int32)).toNatClampNeg).toNatClampNeg) ≤ (uu x3.toNatClampNeg) → (wj_n_X5_orderBy_45 uu Q k2 vv x1 x3 x4)) ∧ (¬ (uu (vv (x4 - (1 : Int32)).toNatClampNeg).toNatClampNeg) ≤ (uu x3.toNatClampNeg) → (vp_in (x4 - (1 : Int32)) 14 ∧ (vp_in x4 14 ∧ (wl_n_X5_orderBy_10 uu Q k2 n (upd vv x4.toNatClampNeg (vv (x4 - (1 : Int32)).toNatClampNeg)) x1 x3 (x4 + (-1))))))))))))
def wl_n_X5_orderBy_2 (uu : Nat → Int32) (Q : (Nat → Int32) → Prop) : Nat → (Nat → Int32) → Int32 → Int32 → Prop
  | 0, _, _, _ => False
  | n + 1, vv, x1, x3 =>
    ((x1 ≤ x3 → (Q vv)) ∧ (¬ x1 ≤ x3 → (∃ fu10, wl_n_X5_orderBy_10 uu Q (fun (z0 : Nat → Int32) (z1 : Int32) (z2 : Int32) => wl_n_X5_orderBy_2 uu Q n z0 z1 z2) fu10 vv x1 x3 x3)))
def wn_X5_orderBy (uu : Nat → Int32) (vv : Nat → Int32) (a1 : Int32) (Q : (Nat → Int32) → Prop) : Prop :=
  (∃ fu2, wl_n_X5_orderBy_2 uu Q fu2 vv a1 (0 : Int32))
def wl_n_X0_overBy_2 (ho : Nat → Int32) (de : Nat → Int32) (dc : Int32) (dp : Int32) (Q : Int32 → Prop) : Nat → Int32 → Int32 → Prop
  | 0, _, _ => False
  | n + 1, x2, x3 =>
    ((dc ≤ x3 → (Q x3)) ∧ (¬ dc ≤ x3 → (vp_in x3 14 ∧ (vp_in (ho x3.toNatClampNeg) 14 ∧ ((x2 < ((de (ho x3.toNatClampNeg).toNatClampNeg) + dp) → (Q x3)) ∧ (¬ x2 < ((de (ho x3.toNatClampNeg).toNatClampNeg) + dp) → (wl_n_X0_overBy_2 ho de dc dp Q n x2 (x3 + 1))))))))
def wn_X0_overBy (ho : Nat → Int32) (de : Nat → Int32) (dc : Int32) (dp : Int32) (a2 : Int32) (Q : Int32 → Prop) : Prop :=
  (∃ fu2, wl_n_X0_overBy_2 ho de dc dp Q fu2 a2 (0 : Int32))
def wj_n_X0_fameAmong_79 (db : Nat → Int32) (de : Nat → Int32) (df : Nat → Int32) (dc : Int32) (dp : Int32) (Q : Int32 → (Nat → Int32) → (Nat → Int32) → Prop) (k24 : (Nat → Int32) → (Nat → Int32) → Int32 → Int32 → Prop) (ho : Nat → Int32) (ht : Nat → Int32) (x2 : Int32) (x3 : Int32) (x4 : Int32) (x5 : Int32) : Prop :=
    (vp_in x3 15 ∧ (vp_in (x3 + (1 : Int32)) 15 ∧ (k24 ho (upd ht (x3 + (1 : Int32)).toNatClampNeg (if (ht x3.toNatClampNeg) < x5 then x5 else (ht x3.toNatClampNeg))) x2 (x3 + 1))))
def wl_n_X0_fameAmong_24 (db : Nat → Int32) (de : Nat → Int32) (df : Nat → Int32) (dc : Int32) (dp : Int32) (Q : Int32 → (Nat → Int32) → (Nat → Int32) → Prop) : Nat → (Nat → Int32) → (Nat → Int32) → Int32 → Int32 → Prop
  | 0, _, _, _, _ => False
  | n + 1, ho, ht, x2, x3 =>
    ((dc ≤ x3 → (vp_in dc 15 ∧ (Q (ht dc.toNatClampNeg) ho ht))) ∧ (¬ dc ≤ x3 → (vp_in x3 14 ∧ (wn_X5_isIn x2 (ho x3.toNatClampNeg) (fun (r6 : Int32) => ((r6 = 0 → (wj_n_X0_fameAmong_79 db de df dc dp Q (fun (z0 : Nat → Int32) (z1 : Nat → Int32) (z2 : Int32) (z3 : Int32) => wl_n_X0_fameAmong_24 db de df dc dp Q n z0 z1 z2 z3) ho ht x2 x3 (ho x3.toNatClampNeg) (0 : Int32))) ∧ (¬ r6 = 0 → (vp_in (ho x3.toNatClampNeg) 14 ∧ (vp_in (ho x3.toNatClampNeg) 14 ∧ (wn_X0_overBy ho de dc dp (db (ho x3.toNatClampNeg).toNatClampNeg) (fun (r12 : Int32) => (vp_in r12 15 ∧ (∀ v14 : Int32, v14 = ((df (ho x3.toNatClampNeg).toNatClampNeg) + (ht r12.toNatClampNeg)) → (wj_n_X0_fameAmong_79 db de df dc dp Q (fun (z0 : Nat → Int32) (z1 : Nat → Int32) (z2 : Int32) (z3 : Int32) => wl_n_X0_fameAmong_24 db de df dc dp Q n z0 z1 z2 z3) ho ht x2 x3 (ho x3.toNatClampNeg) v14))))))))))))))
def wn_X0_fameAmong (ho : Nat → Int32) (ht : Nat → Int32) (db : Nat → Int32) (de : Nat → Int32) (df : Nat → Int32) (dc : Int32) (dp : Int32) (a2 : Int32) (Q : Int32 → (Nat → Int32) → (Nat → Int32) → Prop) : Prop :=
  (wn_X5_orderBy de ho dc (fun (vv_1 : Nat → Int32) => (vp_in (0 : Int32) 15 ∧ (∃ fu24, wl_n_X0_fameAmong_24 db de df dc dp Q fu24 vv_1 (upd ht (0 : Int32).toNatClampNeg (0 : Int32)) a2 (0 : Int32)))))
def wn_X1_all (dc : Int32) (Q : Int32 → Prop) : Prop :=
  (wn_X5_bit dc (fun (r1 : Int32) => (Q (r1 - (1 : Int32)))))
def wl_n_X0_bestSet_20 (db : Nat → Int32) (de : Nat → Int32) (df : Nat → Int32) (dc : Int32) (dp : Int32) (Q : Int32 → (Nat → Int32) → (Nat → Int32) → Prop) : Nat → (Nat → Int32) → (Nat → Int32) → Int32 → Int32 → Int32 → Prop
  | 0, _, _, _, _, _ => False
  | n + 1, ho, ht, x2, x3, x4 =>
    ((x4 < 0 → (Q x2 ho ht)) ∧ (¬ x4 < 0 → (wn_X5_bit x4 (fun (r6 : Int32) => (wn_X0_fameAmong ho ht db de df dc dp (x2 &&& (r6 ^^^ (-1 : Int32))) (fun (r7 : Int32) (ho_8 : Nat → Int32) (ht_9 : Nat → Int32) => ((¬ r7 = x3 → (wl_n_X0_bestSet_20 db de df dc dp Q n ho_8 ht_9 x2 x3 (x4 + (-1)))) ∧ (r7 = x3 → (wl_n_X0_bestSet_20 db de df dc dp Q n ho_8 ht_9 (x2 &&& (r6 ^^^ (-1 : Int32))) x3 (x4 + (-1)))))))))))
def wn_X0_bestSet (ho : Nat → Int32) (ht : Nat → Int32) (db : Nat → Int32) (de : Nat → Int32) (df : Nat → Int32) (dc : Int32) (dp : Int32) (Q : Int32 → (Nat → Int32) → (Nat → Int32) → Prop) : Prop :=
  (wn_X1_all dc (fun (r1 : Int32) => (wn_X0_fameAmong ho ht db de df dc dp r1 (fun (r2 : Int32) (ho_3 : Nat → Int32) (ht_4 : Nat → Int32) => (∃ fu20, wl_n_X0_bestSet_20 db de df dc dp Q fu20 ho_3 ht_4 r1 r2 (dc - (1 : Int32)))))))
def wl_n_X0_mostInOne_22 (db : Nat → Int32) (de : Nat → Int32) (dc : Int32) (dp : Int32) (Q : Int32 → (Nat → Int32) → Prop) : Nat → (Nat → Int32) → Int32 → Int32 → Int32 → Prop
  | 0, _, _, _, _ => False
  | n + 1, ho, x2, x3, x4 =>
    ((dc ≤ x4 → (Q x2 ho)) ∧ (¬ dc ≤ x4 → (vp_in x4 14 ∧ (vp_in (ho x4.toNatClampNeg) 14 ∧ (((db (ho x4.toNatClampNeg).toNatClampNeg) < x3 → (wl_n_X0_mostInOne_22 db de dc dp Q n ho x2 x3 (x4 + 1))) ∧ (¬ (db (ho x4.toNatClampNeg).toNatClampNeg) < x3 → (vp_in (ho x4.toNatClampNeg) 14 ∧ (wl_n_X0_mostInOne_22 db de dc dp Q n ho (x2 + 1) ((de (ho x4.toNatClampNeg).toNatClampNeg) + dp) (x4 + 1)))))))))
def wn_X0_mostInOne (ho : Nat → Int32) (db : Nat → Int32) (de : Nat → Int32) (dc : Int32) (dp : Int32) (Q : Int32 → (Nat → Int32) → Prop) : Prop :=
  (wn_X5_orderBy de ho dc (fun (vv_1 : Nat → Int32) => (∃ fu22, wl_n_X0_mostInOne_22 db de dc dp Q fu22 vv_1 (0 : Int32) (0 : Int32) (0 : Int32))))
def wn_X1_copyRehearsal_two (db : Nat → Int32) (de : Nat → Int32) (df : Nat → Int32) (ob : Nat → Int32) (oe : Nat → Int32) (of : Nat → Int32) (a2 : Int32) (a3 : Int32) (Q : (Nat → Int32) → (Nat → Int32) → (Nat → Int32) → Prop) : Prop :=
  (vp_in a2 14 ∧ (vp_in a3 14 ∧ (vp_in a2 14 ∧ (vp_in a3 14 ∧ (vp_in a2 14 ∧ (vp_in a3 14 ∧ (Q (upd db a3.toNatClampNeg (ob a2.toNatClampNeg)) (upd de a3.toNatClampNeg (oe a2.toNatClampNeg)) (upd df a3.toNatClampNeg (of a2.toNatClampNeg)))))))))
def wl_n_X1_copyFrom_2 (ob : Nat → Int32) (oe : Nat → Int32) (of : Nat → Int32) (oc : Int32) (op : Int32) (ok : Int32) (Q : (Nat → Int32) → (Nat → Int32) → (Nat → Int32) → Int32 → Int32 → Int32 → Prop) : Nat → (Nat → Int32) → (Nat → Int32) → (Nat → Int32) → Int32 → Int32 → Int32 → Int32 → Prop
  | 0, _, _, _, _, _, _, _ => False
  | n + 1, db, de, df, dc, dp, dk, x2 =>
    ((oc ≤ x2 → (Q db de df oc op ok)) ∧ (¬ oc ≤ x2 → (wn_X1_copyRehearsal_two db de df ob oe of x2 x2 (fun (db_2 : Nat → Int32) (de_3 : Nat → Int32) (df_4 : Nat → Int32) => (wl_n_X1_copyFrom_2 ob oe of oc op ok Q n db_2 de_3 df_4 dc dp dk (x2 + 1))))))
def wn_X1_copyFrom (db : Nat → Int32) (de : Nat → Int32) (df : Nat → Int32) (dc : Int32) (dp : Int32) (dk : Int32) (ob : Nat → Int32) (oe : Nat → Int32) (of : Nat → Int32) (oc : Int32) (op : Int32) (ok : Int32) (Q : (Nat → Int32) → (Nat → Int32) → (Nat → Int32) → Int32 → Int32 → Int32 → Prop) : Prop :=
  (∃ fu2, wl_n_X1_copyFrom_2 ob oe of oc op ok Q fu2 db de df dc dp dk (0 : Int32))
def wn_X1_copyRehearsal_self (db : Nat → Int32) (de : Nat → Int32) (df : Nat → Int32) (a2 : Int32) (a3 : Int32) (Q : (Nat → Int32) → (Nat → Int32) → (Nat → Int32) → Prop) : Prop :=
  (vp_in a2 14 ∧ (vp_in a3 14 ∧ (vp_in a2 14 ∧ (vp_in a3 14 ∧ (vp_in a2 14 ∧ (vp_in a3 14 ∧ (Q (upd db a3.toNatClampNeg (db a2.toNatClampNeg)) (upd de a3.toNatClampNeg (de a2.toNatClampNeg)) (upd df a3.toNatClampNeg (df a2.toNatClampNeg)))))))))
def wn_X1_takeOn (db : Nat → Int32) (de : Nat → Int32) (df : Nat → Int32) (dc : Int32) (a1 : Int32) (a2 : Int32) (a3 : Int32) (Q : (Nat → Int32) → (Nat → Int32) → (Nat → Int32) → Int32 → Prop) : Prop :=
  (vp_in dc 14 ∧ (vp_in dc 14 ∧ (vp_in dc 14 ∧ (Q (upd db dc.toNatClampNeg a1) (upd de dc.toNatClampNeg a2) (upd df dc.toNatClampNeg a3) (dc + (1 : Int32))))))
def wl_n_X1_takeOut_4 (Q : (Nat → Int32) → (Nat → Int32) → (Nat → Int32) → Int32 → Int32 → Prop) : Nat → (Nat → Int32) → (Nat → Int32) → (Nat → Int32) → Int32 → Int32 → Int32 → Int32 → Prop
  | 0, _, _, _, _, _, _, _ => False
  | n + 1, db, de, df, dc, dk, x1, x2 =>
    ((dc ≤ x2 → (wn_X5_bit x1 (fun (r2 : Int32) => (Q db de df (dc - (1 : Int32)) ((dk &&& (r2 - (1 : Int32))) ||| ((dk >>> ((x1 + (1 : Int32)) &&& 31)) <<< (x1 &&& 31))))))) ∧ (¬ dc ≤ x2 → (wn_X1_copyRehearsal_self db de df x2 (x2 - (1 : Int32)) (fun (db_3 : Nat → Int32) (de_4 : Nat → Int32) (df_5 : Nat → Int32) => (wl_n_X1_takeOut_4 Q n db_3 de_4 df_5 dc dk x1 (x2 + 1))))))
def wn_X1_takeOut (db : Nat → Int32) (de : Nat → Int32) (df : Nat → Int32) (dc : Int32) (dk : Int32) (a1 : Int32) (Q : (Nat → Int32) → (Nat → Int32) → (Nat → Int32) → Int32 → Int32 → Prop) : Prop :=
  (∃ fu4, wl_n_X1_takeOut_4 Q fu4 db de df dc dk a1 (a1 + (1 : Int32)))
def wn_X1_hasBooked (dk : Int32) (a1 : Int32) (Q : Int32 → Prop) : Prop :=
  (wn_X5_isIn dk a1 (fun (r1 : Int32) => (Q r1)))
def wn_X1_quartersOf (db : Nat → Int32) (de : Nat → Int32) (a1 : Int32) (Q : Int32 → Prop) : Prop :=
  (vp_in a1 14 ∧ (vp_in a1 14 ∧ (Q ((de a1.toNatClampNeg) - (db a1.toNatClampNeg)))))
def wl_n_X1_fameOfSet_4 (df : Nat → Int32) (dc : Int32) (Q : Int32 → Prop) : Nat → Int32 → Int32 → Int32 → Prop
  | 0, _, _, _ => False
  | n + 1, x1, x2, x3 =>
    ((dc ≤ x3 → (Q x2)) ∧ (¬ dc ≤ x3 → (wn_X5_isIn x1 x3 (fun (r2 : Int32) => ((r2 = 0 → (wl_n_X1_fameOfSet_4 df dc Q n x1 x2 (x3 + 1))) ∧ (¬ r2 = 0 → (vp_in x3 14 ∧ (wl_n_X1_fameOfSet_4 df dc Q n x1 (x2 + (df x3.toNatClampNeg)) (x3 + 1)))))))))
def wn_X1_fameOfSet (df : Nat → Int32) (dc : Int32) (a1 : Int32) (Q : Int32 → Prop) : Prop :=
  (∃ fu4, wl_n_X1_fameOfSet_4 df dc Q fu4 a1 (0 : Int32) (0 : Int32))
def wl_n_X1_quartersOfSet_4 (db : Nat → Int32) (de : Nat → Int32) (dc : Int32) (Q : Int32 → Prop) : Nat → Int32 → Int32 → Int32 → Prop
  | 0, _, _, _ => False
  | n + 1, x1, x2, x3 =>
    ((dc ≤ x3 → (Q x2)) ∧ (¬ dc ≤ x3 → (wn_X5_isIn x1 x3 (fun (r2 : Int32) => ((r2 = 0 → (wl_n_X1_quartersOfSet_4 db de dc Q n x1 x2 (x3 + 1))) ∧ (¬ r2 = 0 → (wn_X1_quartersOf db de x3 (fun (r4 : Int32) => (wl_n_X1_quartersOfSet_4 db de dc Q n x1 (x2 + r4) (x3 + 1))))))))))
def wn_X1_quartersOfSet (db : Nat → Int32) (de : Nat → Int32) (dc : Int32) (a1 : Int32) (Q : Int32 → Prop) : Prop :=
  (∃ fu4, wl_n_X1_quartersOfSet_4 db de dc Q fu4 a1 (0 : Int32) (0 : Int32))
def wl_n_X1_bookingsAllow_3 (db : Nat → Int32) (de : Nat → Int32) (dc : Int32) (dp : Int32) (dk : Int32) (Q : Int32 → Prop) : Nat → Int32 → Int32 → Int32 → Int32 → Prop
  | 0, _, _, _, _ => False
  | n + 1, x1, x2, x3, x4 =>
    ((dc ≤ x4 → (Q (1 : Int32))) ∧ (¬ dc ≤ x4 → ((x4 = x1 → (wl_n_X1_bookingsAllow_3 db de dc dp dk Q n x1 x2 x3 (x4 + 1))) ∧ (¬ x4 = x1 → (wn_X1_hasBooked dk x4 (fun (r3 : Int32) => ((r3 = 0 → (wl_n_X1_bookingsAllow_3 db de dc dp dk Q n x1 x2 x3 (x4 + 1))) ∧ (¬ r3 = 0 → (wn_X1_clashWithTimes db de x4 x2 x3 dp (fun (r5 : Int32) => ((r5 = 0 → (wl_n_X1_bookingsAllow_3 db de dc dp dk Q n x1 x2 x3 (x4 + 1))) ∧ (¬ r5 = 0 → (Q (0 : Int32))))))))))))))
def wn_X1_bookingsAllow (db : Nat → Int32) (de : Nat → Int32) (dc : Int32) (dp : Int32) (dk : Int32) (a1 : Int32) (a2 : Int32) (a3 : Int32) (Q : Int32 → Prop) : Prop :=
  (∃ fu3, wl_n_X1_bookingsAllow_3 db de dc dp dk Q fu3 a1 a2 a3 (0 : Int32))
def wl_n_X1_bookingsAllowPause_14 (db : Nat → Int32) (de : Nat → Int32) (dc : Int32) (dk : Int32) (Q : Int32 → Prop) (k2 : Int32 → Int32 → Prop) : Nat → Int32 → Int32 → Int32 → Prop
  | 0, _, _, _ => False
  | n + 1, x1, x2, x3 =>
    ((dc ≤ x3 → (k2 x1 (x2 + 1))) ∧ (¬ dc ≤ x3 → (wn_X1_hasBooked dk x2 (fun (r3 : Int32) => ((r3 = 0 → (wl_n_X1_bookingsAllowPause_14 db de dc dk Q k2 n x1 x2 (x3 + 1))) ∧ (¬ r3 = 0 → (wn_X1_hasBooked dk x3 (fun (r5 : Int32) => ((r5 = 0 → (wl_n_X1_bookingsAllowPause_14 db de dc dk Q k2 n x1 x2 (x3 + 1))) ∧ (¬ r5 = 0 → (vp_in x3 14 ∧ (vp_in x3 14 ∧ (wn_X1_clashWithTimes db de x2 (db x3.toNatClampNeg) (de x3.toNatClampNeg) x1 (fun (r9 : Int32) => ((r9 = 0 → (wl_n_X1_bookingsAllowPause_14 db de dc dk Q k2 n x1 x2 (x3 + 1))) ∧ (¬ r9 = 0 → (Q (0 : Int32))))))))))))))))))
def wl_n_X1_bookingsAllowPause_2 (db : Nat → Int32) (de : Nat → Int32) (dc : Int32) (dk : Int32) (Q : Int32 → Prop) : Nat → Int32 → Int32 → Prop
  | 0, _, _ => False
  | n + 1, x1, x2 =>
    ((dc ≤ x2 → (Q (1 : Int32))) ∧ (¬ dc ≤ x2 → (∃ fu14, wl_n_X1_bookingsAllowPause_14 db de dc dk Q (fun (z0 : Int32) (z1 : Int32) => wl_n_X1_bookingsAllowPause_2 db de dc dk Q n z0 z1) fu14 x1 x2 (x2 + (1 : Int32)))))
def wn_X1_bookingsAllowPause (db : Nat → Int32) (de : Nat → Int32) (dc : Int32) (dk : Int32) (a1 : Int32) (Q : Int32 → Prop) : Prop :=
  (∃ fu2, wl_n_X1_bookingsAllowPause_2 db de dc dk Q fu2 a1 (0 : Int32))
def wl_n_X1_beginningAt_4 (db : Nat → Int32) (dc : Int32) (Q : Int32 → Prop) : Nat → Int32 → Int32 → Int32 → Prop
  | 0, _, _, _ => False
  | n + 1, x1, x2, x3 =>
    ((dc ≤ x3 → (Q x2)) ∧ (¬ dc ≤ x3 → (vp_in x3 14 ∧ ((¬ (db x3.toNatClampNeg) = x1 → (wl_n_X1_beginningAt_4 db dc Q n x1 x2 (x3 + 1))) ∧ ((db x3.toNatClampNeg) = x1 → (wl_n_X1_beginningAt_4 db dc Q n x1 (x2 + 1) (x3 + 1)))))))
def wn_X1_beginningAt (db : Nat → Int32) (dc : Int32) (a1 : Int32) (Q : Int32 → Prop) : Prop :=
  (∃ fu4, wl_n_X1_beginningAt_4 db dc Q fu4 a1 (0 : Int32) (0 : Int32))
def wl_n_X1_overAt_4 (de : Nat → Int32) (dc : Int32) (dp : Int32) (Q : Int32 → Prop) : Nat → Int32 → Int32 → Int32 → Prop
  | 0, _, _, _ => False
  | n + 1, x1, x2, x3 =>
    ((dc ≤ x3 → (Q x2)) ∧ (¬ dc ≤ x3 → (vp_in x3 14 ∧ ((¬ ((de x3.toNatClampNeg) + dp) = x1 → (wl_n_X1_overAt_4 de dc dp Q n x1 x2 (x3 + 1))) ∧ (((de x3.toNatClampNeg) + dp) = x1 → (wl_n_X1_overAt_4 de dc dp Q n x1 (x2 + 1) (x3 + 1)))))))
def wn_X1_overAt (de : Nat → Int32) (dc : Int32) (dp : Int32) (a1 : Int32) (Q : Int32 → Prop) : Prop :=
  (∃ fu4, wl_n_X1_overAt_4 de dc dp Q fu4 a1 (0 : Int32) (0 : Int32))
def wl_n_X2_sweptPairs_7 (db : Nat → Int32) (de : Nat → Int32) (dc : Int32) (dp : Int32) (Q : Int32 → Prop) : Nat → Int32 → Int32 → Int32 → Prop
  | 0, _, _, _ => False
  | n + 1, x2, x3, x4 =>
    (((96 : Int32) ≤ x4 → (Q x2)) ∧ (¬ (96 : Int32) ≤ x4 → (wn_X1_overAt de dc dp x4 (fun (r2 : Int32) => (wn_X1_beginningAt db dc x4 (fun (r3 : Int32) => (∀ v4 : Int32, v4 = (x2 + ((r3 * (x3 - r2)) + ((r3 * (r3 - (1 : Int32))) / (2 : Int32)))) → (wl_n_X2_sweptPairs_7 db de dc dp Q n v4 ((x3 - r2) + r3) (x4 + 1)))))))))
def wn_X2_sweptPairs (db : Nat → Int32) (de : Nat → Int32) (dc : Int32) (dp : Int32) (Q : Int32 → Prop) : Prop :=
  (∃ fu7, wl_n_X2_sweptPairs_7 db de dc dp Q fu7 (0 : Int32) (0 : Int32) (0 : Int32))
def wl_n_X2_sweptRooms_7 (db : Nat → Int32) (de : Nat → Int32) (dc : Int32) (dp : Int32) (Q : Int32 → Prop) : Nat → Int32 → Int32 → Int32 → Prop
  | 0, _, _, _ => False
  | n + 1, x2, x3, x4 =>
    (((96 : Int32) ≤ x4 → (Q x2)) ∧ (¬ (96 : Int32) ≤ x4 → (wn_X1_beginningAt db dc x4 (fun (r2 : Int32) => (wn_X1_overAt de dc dp x4 (fun (r3 : Int32) => (wl_n_X2_sweptRooms_7 db de dc dp Q n (if x2 < (x3 + (r2 - r3)) then (x3 + (r2 - r3)) else x2) (x3 + (r2 - r3)) (x4 + 1))))))))
def wn_X2_sweptRooms (db : Nat → Int32) (de : Nat → Int32) (dc : Int32) (dp : Int32) (Q : Int32 → Prop) : Prop :=
  (∃ fu7, wl_n_X2_sweptRooms_7 db de dc dp Q fu7 (0 : Int32) (0 : Int32) (0 : Int32))
def wl_n_X2_lowestRoomFor_58 (ro : Nat → Int32) (rg : Nat → Int32) (db : Nat → Int32) (de : Nat → Int32) (dp : Int32) (Q : Int32 → Prop) : Nat → Int32 → Int32 → Int32 → Prop
  | 0, _, _, _ => False
  | n + 1, x2, x3, x4 =>
    ((x2 ≤ x4 → (Q x4)) ∧ (¬ x2 ≤ x4 → (wn_X5_isIn x3 x4 (fun (r3 : Int32) => ((r3 = 0 → (Q x4)) ∧ (¬ r3 = 0 → (wl_n_X2_lowestRoomFor_58 ro rg db de dp Q n x2 x3 (x4 + 1))))))))
def wl_n_X2_lowestRoomFor_5 (ro : Nat → Int32) (rg : Nat → Int32) (db : Nat → Int32) (de : Nat → Int32) (dp : Int32) (Q : Int32 → Prop) : Nat → Int32 → Int32 → Int32 → Prop
  | 0, _, _, _ => False
  | n + 1, x2, x3, x4 =>
    ((x2 ≤ x4 → (∃ fu58, wl_n_X2_lowestRoomFor_58 ro rg db de dp Q fu58 x2 x3 (0 : Int32))) ∧ (¬ x2 ≤ x4 → (vp_in x2 14 ∧ (vp_in x4 14 ∧ (wn_X1_clash db de dp (ro x2.toNatClampNeg) (ro x4.toNatClampNeg) (fun (r7 : Int32) => ((r7 = 0 → (wl_n_X2_lowestRoomFor_5 ro rg db de dp Q n x2 x3 (x4 + 1))) ∧ (¬ r7 = 0 → (vp_in x4 14 ∧ (vp_in (ro x4.toNatClampNeg) 14 ∧ (wn_X5_bit (rg (ro x4.toNatClampNeg).toNatClampNeg) (fun (r11 : Int32) => (wl_n_X2_lowestRoomFor_5 ro rg db de dp Q n x2 (x3 ||| r11) (x4 + 1))))))))))))))
def wn_X2_lowestRoomFor (ro : Nat → Int32) (rg : Nat → Int32) (db : Nat → Int32) (de : Nat → Int32) (dp : Int32) (a2 : Int32) (Q : Int32 → Prop) : Prop :=
  (∃ fu5, wl_n_X2_lowestRoomFor_5 ro rg db de dp Q fu5 a2 (0 : Int32) (0 : Int32))
def wl_n_X2_giveAll_17 (db : Nat → Int32) (de : Nat → Int32) (dc : Int32) (dp : Int32) (Q : (Nat → Int32) → (Nat → Int32) → Prop) : Nat → (Nat → Int32) → (Nat → Int32) → Int32 → Prop
  | 0, _, _, _ => False
  | n + 1, ro, rg, x2 =>
    ((dc ≤ x2 → (Q ro rg)) ∧ (¬ dc ≤ x2 → (vp_in x2 14 ∧ (wn_X2_lowestRoomFor ro rg db de dp x2 (fun (r4 : Int32) => (vp_in (ro x2.toNatClampNeg) 14 ∧ (wl_n_X2_giveAll_17 db de dc dp Q n ro (upd rg (ro x2.toNatClampNeg).toNatClampNeg r4) (x2 + 1))))))))
def wn_X2_giveAll (ro : Nat → Int32) (rg : Nat → Int32) (db : Nat → Int32) (de : Nat → Int32) (dc : Int32) (dp : Int32) (Q : (Nat → Int32) → (Nat → Int32) → Prop) : Prop :=
  (wn_X5_orderBy db ro dc (fun (vv_1 : Nat → Int32) => (∃ fu17, wl_n_X2_giveAll_17 db de dc dp Q fu17 vv_1 rg (0 : Int32))))
def wl_n_X2_givenRooms_9 (db : Nat → Int32) (de : Nat → Int32) (dc : Int32) (dp : Int32) (Q : Int32 → (Nat → Int32) → (Nat → Int32) → Prop) : Nat → (Nat → Int32) → (Nat → Int32) → Int32 → Int32 → Prop
  | 0, _, _, _, _ => False
  | n + 1, ro, rg, x2, x3 =>
    ((dc ≤ x3 → (Q x2 ro rg)) ∧ (¬ dc ≤ x3 → (vp_in x3 14 ∧ (∀ v5 : Int32, v5 = (if x2 < ((rg x3.toNatClampNeg) + (1 : Int32)) then ((rg x3.toNatClampNeg) + (1 : Int32)) else x2) → (wl_n_X2_givenRooms_9 db de dc dp Q n ro rg v5 (x3 + 1))))))
def wn_X2_givenRooms (ro : Nat → Int32) (rg : Nat → Int32) (db : Nat → Int32) (de : Nat → Int32) (dc : Int32) (dp : Int32) (Q : Int32 → (Nat → Int32) → (Nat → Int32) → Prop) : Prop :=
  (wn_X2_giveAll ro rg db de dc dp (fun (ro_1 : Nat → Int32) (rg_2 : Nat → Int32) => (∃ fu9, wl_n_X2_givenRooms_9 db de dc dp Q fu9 ro_1 rg_2 (0 : Int32) (0 : Int32))))
def wn_X2_givenTo (ro : Nat → Int32) (rg : Nat → Int32) (db : Nat → Int32) (de : Nat → Int32) (dc : Int32) (dp : Int32) (a2 : Int32) (Q : Int32 → (Nat → Int32) → (Nat → Int32) → Prop) : Prop :=
  (wn_X2_giveAll ro rg db de dc dp (fun (ro_1 : Nat → Int32) (rg_2 : Nat → Int32) => (vp_in a2 14 ∧ (Q (rg_2 a2.toNatClampNeg) ro_1 rg_2))))
def wj_n_X3_save_32 (db : Nat → Int32) (de : Nat → Int32) (df : Nat → Int32) (dc : Int32) (dp : Int32) (dk : Int32) (Q : Int32 → Int32 → (Nat → Nat → Int32) → (Nat → Nat → Int32) → (Nat → Nat → Int32) → (Nat → Int32) → (Nat → Int32) → (Nat → Int32) → Prop) (so : Int32) (sn : Int32) (sb : Nat → Nat → Int32) (se : Nat → Nat → Int32) (sf : Nat → Nat → Int32) (sc : Nat → Int32) (sp : Nat → Int32) (sk : Nat → Int32) : Prop :=
    (vp_in ((so + sn) - (so + sn) / (6 : Int32) * (6 : Int32)) 6 ∧ ((((so + sn) - (so + sn) / (6 : Int32) * (6 : Int32)) = 0 → (wn_X1_copyFrom (sb 0) (se 0) (sf 0) (sc 0) (sp 0) (sk 0) db de df dc dp dk (fun (db_3 : Nat → Int32) (de_4 : Nat → Int32) (df_5 : Nat → Int32) (dc_6 : Int32) (dp_7 : Int32) (dk_8 : Int32) => (Q so (sn + (1 : Int32)) (va_up sb 0 db_3) (va_up se 0 de_4) (va_up sf 0 df_5) (va_up sc 0 dc_6) (va_up sp 0 dp_7) (va_up sk 0 dk_8))))) ∧ (((so + sn) - (so + sn) / (6 : Int32) * (6 : Int32)) = 1 → (wn_X1_copyFrom (sb 1) (se 1) (sf 1) (sc 1) (sp 1) (sk 1) db de df dc dp dk (fun (db_9 : Nat → Int32) (de_10 : Nat → Int32) (df_11 : Nat → Int32) (dc_12 : Int32) (dp_13 : Int32) (dk_14 : Int32) => (Q so (sn + (1 : Int32)) (va_up sb 1 db_9) (va_up se 1 de_10) (va_up sf 1 df_11) (va_up sc 1 dc_12) (va_up sp 1 dp_13) (va_up sk 1 dk_14))))) ∧ (((so + sn) - (so + sn) / (6 : Int32) * (6 : Int32)) = 2 → (wn_X1_copyFrom (sb 2) (se 2) (sf 2) (sc 2) (sp 2) (sk 2) db de df dc dp dk (fun (db_15 : Nat → Int32) (de_16 : Nat → Int32) (df_17 : Nat → Int32) (dc_18 : Int32) (dp_19 : Int32) (dk_20 : Int32) => (Q so (sn + (1 : Int32)) (va_up sb 2 db_15) (va_up se 2 de_16) (va_up sf 2 df_17) (va_up sc 2 dc_18) (va_up sp 2 dp_19) (va_up sk 2 dk_20))))) ∧ (((so + sn) - (so + sn) / (6 : Int32) * (6 : Int32)) = 3 → (wn_X1_copyFrom (sb 3) (se 3) (sf 3) (sc 3) (sp 3) (sk 3) db de df dc dp dk (fun (db_21 : Nat → Int32) (de_22 : Nat → Int32) (df_23 : Nat → Int32) (dc_24 : Int32) (dp_25 : Int32) (dk_26 : Int32) => (Q so (sn + (1 : Int32)) (va_up sb 3 db_21) (va_up se 3 de_22) (va_up sf 3 df_23) (va_up sc 3 dc_24) (va_up sp 3 dp_25) (va_up sk 3 dk_26))))) ∧ (((so + sn) - (so + sn) / (6 : Int32) * (6 : Int32)) = 4 → (wn_X1_copyFrom (sb 4) (se 4) (sf 4) (sc 4) (sp 4) (sk 4) db de df dc dp dk (fun (db_27 : Nat → Int32) (de_28 : Nat → Int32) (df_29 : Nat → Int32) (dc_30 : Int32) (dp_31 : Int32) (dk_32 : Int32) => (Q so (sn + (1 : Int32)) (va_up sb 4 db_27) (va_up se 4 de_28) (va_up sf 4 df_29) (va_up sc 4 dc_30) (va_up sp 4 dp_31) (va_up sk 4 dk_32))))) ∧ (((so + sn) - (so + sn) / (6 : Int32) * (6 : Int32)) = 5 → (wn_X1_copyFrom (sb 5) (se 5) (sf 5) (sc 5) (sp 5) (sk 5) db de df dc dp dk (fun (db_33 : Nat → Int32) (de_34 : Nat → Int32) (df_35 : Nat → Int32) (dc_36 : Int32) (dp_37 : Int32) (dk_38 : Int32) => (Q so (sn + (1 : Int32)) (va_up sb 5 db_33) (va_up se 5 de_34) (va_up sf 5 df_35) (va_up sc 5 dc_36) (va_up sp 5 dp_37) (va_up sk 5 dk_38)))))))
def wn_X3_save (so : Int32) (sn : Int32) (sb : Nat → Nat → Int32) (se : Nat → Nat → Int32) (sf : Nat → Nat → Int32) (sc : Nat → Int32) (sp : Nat → Int32) (sk : Nat → Int32) (db : Nat → Int32) (de : Nat → Int32) (df : Nat → Int32) (dc : Int32) (dp : Int32) (dk : Int32) (Q : Int32 → Int32 → (Nat → Nat → Int32) → (Nat → Nat → Int32) → (Nat → Nat → Int32) → (Nat → Int32) → (Nat → Int32) → (Nat → Int32) → Prop) : Prop :=
  ((¬ sn = (6 : Int32) → (wj_n_X3_save_32 db de df dc dp dk Q so sn sb se sf sc sp sk)) ∧ (sn = (6 : Int32) → (wj_n_X3_save_32 db de df dc dp dk Q ((so + (1 : Int32)) - (so + (1 : Int32)) / (6 : Int32) * (6 : Int32)) (sn - (1 : Int32)) sb se sf sc sp sk)))
def wn_X3_restoreLatest (so : Int32) (sn : Int32) (sb : Nat → Nat → Int32) (se : Nat → Nat → Int32) (sf : Nat → Nat → Int32) (sc : Nat → Int32) (sp : Nat → Int32) (sk : Nat → Int32) (db : Nat → Int32) (de : Nat → Int32) (df : Nat → Int32) (dc : Int32) (dp : Int32) (dk : Int32) (Q : Int32 → (Nat → Int32) → (Nat → Int32) → (Nat → Int32) → Int32 → Int32 → Int32 → Prop) : Prop :=
  (vp_in ((so + (sn - (1 : Int32))) - (so + (sn - (1 : Int32))) / (6 : Int32) * (6 : Int32)) 6 ∧ ((((so + (sn - (1 : Int32))) - (so + (sn - (1 : Int32))) / (6 : Int32) * (6 : Int32)) = 0 → (wn_X1_copyFrom db de df dc dp dk (sb 0) (se 0) (sf 0) (sc 0) (sp 0) (sk 0) (fun (db_2 : Nat → Int32) (de_3 : Nat → Int32) (df_4 : Nat → Int32) (dc_5 : Int32) (dp_6 : Int32) (dk_7 : Int32) => (Q (sn - (1 : Int32)) db_2 de_3 df_4 dc_5 dp_6 dk_7)))) ∧ (((so + (sn - (1 : Int32))) - (so + (sn - (1 : Int32))) / (6 : Int32) * (6 : Int32)) = 1 → (wn_X1_copyFrom db de df dc dp dk (sb 1) (se 1) (sf 1) (sc 1) (sp 1) (sk 1) (fun (db_8 : Nat → Int32) (de_9 : Nat → Int32) (df_10 : Nat → Int32) (dc_11 : Int32) (dp_12 : Int32) (dk_13 : Int32) => (Q (sn - (1 : Int32)) db_8 de_9 df_10 dc_11 dp_12 dk_13)))) ∧ (((so + (sn - (1 : Int32))) - (so + (sn - (1 : Int32))) / (6 : Int32) * (6 : Int32)) = 2 → (wn_X1_copyFrom db de df dc dp dk (sb 2) (se 2) (sf 2) (sc 2) (sp 2) (sk 2) (fun (db_14 : Nat → Int32) (de_15 : Nat → Int32) (df_16 : Nat → Int32) (dc_17 : Int32) (dp_18 : Int32) (dk_19 : Int32) => (Q (sn - (1 : Int32)) db_14 de_15 df_16 dc_17 dp_18 dk_19)))) ∧ (((so + (sn - (1 : Int32))) - (so + (sn - (1 : Int32))) / (6 : Int32) * (6 : Int32)) = 3 → (wn_X1_copyFrom db de df dc dp dk (sb 3) (se 3) (sf 3) (sc 3) (sp 3) (sk 3) (fun (db_20 : Nat → Int32) (de_21 : Nat → Int32) (df_22 : Nat → Int32) (dc_23 : Int32) (dp_24 : Int32) (dk_25 : Int32) => (Q (sn - (1 : Int32)) db_20 de_21 df_22 dc_23 dp_24 dk_25)))) ∧ (((so + (sn - (1 : Int32))) - (so + (sn - (1 : Int32))) / (6 : Int32) * (6 : Int32)) = 4 → (wn_X1_copyFrom db de df dc dp dk (sb 4) (se 4) (sf 4) (sc 4) (sp 4) (sk 4) (fun (db_26 : Nat → Int32) (de_27 : Nat → Int32) (df_28 : Nat → Int32) (dc_29 : Int32) (dp_30 : Int32) (dk_31 : Int32) => (Q (sn - (1 : Int32)) db_26 de_27 df_28 dc_29 dp_30 dk_31)))) ∧ (((so + (sn - (1 : Int32))) - (so + (sn - (1 : Int32))) / (6 : Int32) * (6 : Int32)) = 5 → (wn_X1_copyFrom db de df dc dp dk (sb 5) (se 5) (sf 5) (sc 5) (sp 5) (sk 5) (fun (db_32 : Nat → Int32) (de_33 : Nat → Int32) (df_34 : Nat → Int32) (dc_35 : Int32) (dp_36 : Int32) (dk_37 : Int32) => (Q (sn - (1 : Int32)) db_32 de_33 df_34 dc_35 dp_36 dk_37))))))
def wn_X4_put (tc : Nat → Int32) (tl : Int32) (a1 : Int32) (Q : (Nat → Int32) → Int32 → Prop) : Prop :=
  (vp_in tl 60 ∧ (Q (upd tc tl.toNatClampNeg a1) (tl + (1 : Int32))))
def wn_X4_kind (tf : Int32) (Q : Int32 → Prop) : Prop :=
  (Q (tf - tf / (3 : Int32) * (3 : Int32)))
def wj_n_X4_finishNumber_35 (Q : (Nat → Int32) → Int32 → Int32 → Prop) (tn : Nat → Int32) (tf : Int32) (tv : Int32) : Prop :=
    (Q tn tf (-1 : Int32))
def wn_X4_finishNumber (tn : Nat → Int32) (tf : Int32) (tv : Int32) (Q : (Nat → Int32) → Int32 → Int32 → Prop) : Prop :=
  (((60 : Int32) ≤ tf → (wj_n_X4_finishNumber_35 Q tn tf tv)) ∧ (¬ (60 : Int32) ≤ tf → (vp_in tf 60 ∧ (wj_n_X4_finishNumber_35 Q (upd tn tf.toNatClampNeg tv) (tf + (1 : Int32)) tv))))
def wj_n_X4_takesDigit_42 (tf : Int32) (Q : Int32 → Int32 → Prop) (tv : Int32) (x1 : Int32) (y0 : Int32) : Prop :=
    ((¬ y0 = 0 → (Q (0 : Int32) (((10 : Int32) * tv) + x1))) ∧ (y0 = 0 → (wn_X4_kind tf (fun (r4 : Int32) => (vp_in r4 3 ∧ (((gGr r4.toNatClampNeg) < (((10 : Int32) * tv) + x1) → (Q (0 : Int32) (((10 : Int32) * tv) + x1))) ∧ (¬ (gGr r4.toNatClampNeg) < (((10 : Int32) * tv) + x1) → (Q (1 : Int32) (((10 : Int32) * tv) + x1)))))))))
def wn_X4_takesDigit (tf : Int32) (tv : Int32) (a1 : Int32) (Q : Int32 → Int32 → Prop) : Prop :=
  ((¬ tv = (-1 : Int32) → ((¬ tv = 0 → (wj_n_X4_takesDigit_42 tf Q tv a1 (0 : Int32))) ∧ (tv = 0 → (wj_n_X4_takesDigit_42 tf Q tv a1 (1 : Int32))))) ∧ (tv = (-1 : Int32) → ((0 < a1 → (Q (1 : Int32) a1)) ∧ (¬ 0 < a1 → (wn_X4_kind tf (fun (r8 : Int32) => ((¬ r8 = 0 → (Q (0 : Int32) a1)) ∧ (r8 = 0 → (Q (1 : Int32) a1)))))))))
def wj_n_X4_takes_21 (Q : Int32 → (Nat → Int32) → Int32 → Int32 → Prop) (tn : Nat → Int32) (tf : Int32) (tv : Int32) (x1 : Int32) : Prop :=
    ((tv = (-1 : Int32) → (Q (0 : Int32) tn tf tv)) ∧ (¬ tv = (-1 : Int32) → (wn_X4_kind tf (fun (r3 : Int32) => (vp_in r3 3 ∧ ((x1 = (gSg r3.toNatClampNeg) → (wn_X4_finishNumber tn tf tv (fun (tn_6 : Nat → Int32) (tf_7 : Int32) (tv_8 : Int32) => (Q (1 : Int32) tn_6 tf_7 tv_8)))) ∧ (¬ x1 = (gSg r3.toNatClampNeg) → (Q (0 : Int32) tn tf tv))))))))
def wn_X4_takes (tn : Nat → Int32) (tf : Int32) (tv : Int32) (a1 : Int32) (Q : Int32 → (Nat → Int32) → Int32 → Int32 → Prop) : Prop :=
  ((a1 < (48 : Int32) → (wj_n_X4_takes_21 Q tn tf tv a1)) ∧ (¬ a1 < (48 : Int32) → (((57 : Int32) < a1 → (wj_n_X4_takes_21 Q tn tf tv a1)) ∧ (¬ (57 : Int32) < a1 → (wn_X4_takesDigit tf tv (a1 - (48 : Int32)) (fun (r10 : Int32) (tv_11 : Int32) => (Q r10 tn tf tv_11)))))))
def wl_n_X4_scan_12 (tc : Nat → Int32) (tl : Int32) (Q : Int32 → (Nat → Int32) → Int32 → Int32 → Prop) : Nat → (Nat → Int32) → Int32 → Int32 → Int32 → Prop
  | 0, _, _, _, _ => False
  | n + 1, tn, tf, tv, x1 =>
    ((tl ≤ x1 → (Q tl tn tf tv)) ∧ (¬ tl ≤ x1 → (vp_in x1 60 ∧ (wn_X4_takes tn tf tv (tc x1.toNatClampNeg) (fun (r3 : Int32) (tn_4 : Nat → Int32) (tf_5 : Int32) (tv_6 : Int32) => ((¬ r3 = 0 → (wl_n_X4_scan_12 tc tl Q n tn_4 tf_5 tv_6 (x1 + 1))) ∧ (r3 = 0 → (Q x1 tn_4 tf_5 tv_6))))))))
def wn_X4_scan (tc : Nat → Int32) (tl : Int32) (tn : Nat → Int32) (tf : Int32) (tv : Int32) (Q : Int32 → (Nat → Int32) → Int32 → Int32 → Prop) : Prop :=
  (∃ fu12, wl_n_X4_scan_12 tc tl Q fu12 tn (0 : Int32) (-1 : Int32) (0 : Int32))
def wn_X4_tellsRehearsals (tc : Nat → Int32) (tl : Int32) (tn : Nat → Int32) (tf : Int32) (tv : Int32) (Q : Int32 → (Nat → Int32) → Int32 → Int32 → Prop) : Prop :=
  (wn_X4_scan tc tl tn tf tv (fun (r1 : Int32) (tn_2 : Nat → Int32) (tf_3 : Int32) (tv_4 : Int32) => ((r1 < tl → (Q (0 : Int32) tn_2 tf_3 tv_4)) ∧ (¬ r1 < tl → ((tv_4 = (-1 : Int32) → (Q (0 : Int32) tn_2 tf_3 tv_4)) ∧ (¬ tv_4 = (-1 : Int32) → (wn_X4_kind tf_3 (fun (r7 : Int32) => ((r7 = (2 : Int32) → (wn_X4_finishNumber tn_2 tf_3 tv_4 (fun (tn_9 : Nat → Int32) (tf_10 : Int32) (tv_11 : Int32) => (Q (1 : Int32) tn_9 tf_10 tv_11)))) ∧ (¬ r7 = (2 : Int32) → (Q (0 : Int32) tn_2 tf_3 tv_4)))))))))))
def wn_X4_parts (tf : Int32) (Q : Int32 → Prop) : Prop :=
  (Q (tf / (3 : Int32)))
def wn_X4_beginIn (tn : Nat → Int32) (a1 : Int32) (Q : Int32 → Prop) : Prop :=
  (vp_in (((3 : Int32) * a1) + (0 : Int32)) 60 ∧ (Q (tn (((3 : Int32) * a1) + (0 : Int32)).toNatClampNeg)))
def wn_X4_endIn (tn : Nat → Int32) (a1 : Int32) (Q : Int32 → Prop) : Prop :=
  (vp_in (((3 : Int32) * a1) + (1 : Int32)) 60 ∧ (Q (tn (((3 : Int32) * a1) + (1 : Int32)).toNatClampNeg)))
def wn_X4_fameIn (tn : Nat → Int32) (a1 : Int32) (Q : Int32 → Prop) : Prop :=
  (vp_in (((3 : Int32) * a1) + (2 : Int32)) 60 ∧ (Q (tn (((3 : Int32) * a1) + (2 : Int32)).toNatClampNeg)))
def wl_n_X4_endsFit_2 (tn : Nat → Int32) (tf : Int32) (Q : Int32 → Prop) : Nat → Int32 → Prop
  | 0, _ => False
  | n + 1, x1 =>
    (wn_X4_parts tf (fun (r1 : Int32) => ((r1 ≤ x1 → (Q (1 : Int32))) ∧ (¬ r1 ≤ x1 → (wn_X4_endIn tn x1 (fun (r3 : Int32) => (wn_X4_beginIn tn x1 (fun (r4 : Int32) => ((r4 < r3 → (wl_n_X4_endsFit_2 tn tf Q n (x1 + 1))) ∧ (¬ r4 < r3 → (Q (0 : Int32))))))))))))
def wn_X4_endsFit (tn : Nat → Int32) (tf : Int32) (Q : Int32 → Prop) : Prop :=
  (∃ fu2, wl_n_X4_endsFit_2 tn tf Q fu2 (0 : Int32))
def wj_x_X5_requireTimes_21 (Q : Prop) (X : String → Prop) (x0 : Int32) (x1 : Int32) : Prop :=
    (X "java/lang/IllegalArgumentException")
def wx_X5_requireTimes (a0 : Int32) (a1 : Int32) (Q : Prop) (X : String → Prop) : Prop :=
  ((a0 < 0 → (wj_x_X5_requireTimes_21 Q X a0 a1)) ∧ (¬ a0 < 0 → (((96 : Int32) ≤ a0 → (wj_x_X5_requireTimes_21 Q X a0 a1)) ∧ (¬ (96 : Int32) ≤ a0 → ((a1 ≤ a0 → (wj_x_X5_requireTimes_21 Q X a0 a1)) ∧ (¬ a1 ≤ a0 → ((a1 ≤ (96 : Int32) → (Q)) ∧ (¬ a1 ≤ (96 : Int32) → (wj_x_X5_requireTimes_21 Q X a0 a1)))))))))
def wj_x_X5_requireFame_11 (Q : Prop) (X : String → Prop) (x0 : Int32) : Prop :=
    (X "java/lang/IllegalArgumentException")
def wx_X5_requireFame (a0 : Int32) (Q : Prop) (X : String → Prop) : Prop :=
  ((a0 < (1 : Int32) → (wj_x_X5_requireFame_11 Q X a0)) ∧ (¬ a0 < (1 : Int32) → ((a0 ≤ (50 : Int32) → (Q)) ∧ (¬ a0 ≤ (50 : Int32) → (wj_x_X5_requireFame_11 Q X a0)))))
def wx_X5_requirePlacesFor (dc : Int32) (a1 : Int32) (Q : Prop) (X : String → Prop) : Prop :=
  (((dc + a1) ≤ (14 : Int32) → (Q)) ∧ (¬ (dc + a1) ≤ (14 : Int32) → (X "java/lang/IllegalStateException")))
def wx_X5_add (db : Nat → Int32) (de : Nat → Int32) (df : Nat → Int32) (dc : Int32) (dp : Int32) (dk : Int32) (so : Int32) (sn : Int32) (sb : Nat → Nat → Int32) (se : Nat → Nat → Int32) (sf : Nat → Nat → Int32) (sc : Nat → Int32) (sp : Nat → Int32) (sk : Nat → Int32) (a1 : Int32) (a2 : Int32) (a3 : Int32) (Q : Int32 → (Nat → Int32) → (Nat → Int32) → (Nat → Int32) → Int32 → Int32 → Int32 → (Nat → Nat → Int32) → (Nat → Nat → Int32) → (Nat → Nat → Int32) → (Nat → Int32) → (Nat → Int32) → (Nat → Int32) → Prop) (X : String → (Nat → Int32) → (Nat → Int32) → (Nat → Int32) → Int32 → Int32 → Int32 → (Nat → Nat → Int32) → (Nat → Nat → Int32) → (Nat → Nat → Int32) → (Nat → Int32) → (Nat → Int32) → (Nat → Int32) → Prop) : Prop :=
  (wx_X5_requireTimes a1 a2 (wx_X5_requireFame a3 (wx_X5_requirePlacesFor dc (1 : Int32) (wn_X3_save so sn sb se sf sc sp sk db de df dc dp dk (fun (so_1 : Int32) (sn_2 : Int32) (sb_3 : Nat → Nat → Int32) (se_4 : Nat → Nat → Int32) (sf_5 : Nat → Nat → Int32) (sc_6 : Nat → Int32) (sp_7 : Nat → Int32) (sk_8 : Nat → Int32) => (wn_X1_takeOn db de df dc a1 a2 a3 (fun (db_9 : Nat → Int32) (de_10 : Nat → Int32) (df_11 : Nat → Int32) (dc_12 : Int32) => (Q (dc_12 - (1 : Int32)) db_9 de_10 df_11 dc_12 so_1 sn_2 sb_3 se_4 sf_5 sc_6 sp_7 sk_8))))) (fun (E : String) => X E db de df dc so sn sb se sf sc sp sk)) (fun (E : String) => X E db de df dc so sn sb se sf sc sp sk)) (fun (E : String) => X E db de df dc so sn sb se sf sc sp sk))
def wj_x_X5_requireRehearsal_15 (dc : Int32) (Q : Prop) (X : String → Prop) (x1 : Int32) : Prop :=
    (X "java/lang/IndexOutOfBoundsException")
def wx_X5_requireRehearsal (dc : Int32) (a1 : Int32) (Q : Prop) (X : String → Prop) : Prop :=
  ((a1 < 0 → (wj_x_X5_requireRehearsal_15 dc Q X a1)) ∧ (¬ a1 < 0 → ((a1 < dc → (Q)) ∧ (¬ a1 < dc → (wj_x_X5_requireRehearsal_15 dc Q X a1)))))
def wx_X5_strike (db : Nat → Int32) (de : Nat → Int32) (df : Nat → Int32) (dc : Int32) (dp : Int32) (dk : Int32) (so : Int32) (sn : Int32) (sb : Nat → Nat → Int32) (se : Nat → Nat → Int32) (sf : Nat → Nat → Int32) (sc : Nat → Int32) (sp : Nat → Int32) (sk : Nat → Int32) (a1 : Int32) (Q : Int32 → (Nat → Int32) → (Nat → Int32) → (Nat → Int32) → Int32 → Int32 → Int32 → Int32 → (Nat → Nat → Int32) → (Nat → Nat → Int32) → (Nat → Nat → Int32) → (Nat → Int32) → (Nat → Int32) → (Nat → Int32) → Prop) (X : String → (Nat → Int32) → (Nat → Int32) → (Nat → Int32) → Int32 → Int32 → Int32 → Int32 → (Nat → Nat → Int32) → (Nat → Nat → Int32) → (Nat → Nat → Int32) → (Nat → Int32) → (Nat → Int32) → (Nat → Int32) → Prop) : Prop :=
  (wx_X5_requireRehearsal dc a1 (vp_in a1 14 ∧ (wn_X3_save so sn sb se sf sc sp sk db de df dc dp dk (fun (so_2 : Int32) (sn_3 : Int32) (sb_4 : Nat → Nat → Int32) (se_5 : Nat → Nat → Int32) (sf_6 : Nat → Nat → Int32) (sc_7 : Nat → Int32) (sp_8 : Nat → Int32) (sk_9 : Nat → Int32) => (wn_X1_takeOut db de df dc dk a1 (fun (db_10 : Nat → Int32) (de_11 : Nat → Int32) (df_12 : Nat → Int32) (dc_13 : Int32) (dk_14 : Int32) => (Q (df a1.toNatClampNeg) db_10 de_11 df_12 dc_13 dk_14 so_2 sn_3 sb_4 se_5 sf_6 sc_7 sp_8 sk_9)))))) (fun (E : String) => X E db de df dc dk so sn sb se sf sc sp sk))
def wj_x_X5_move_44 (df : Nat → Int32) (dc : Int32) (dp : Int32) (dk : Int32) (Q : Int32 → (Nat → Int32) → (Nat → Int32) → Int32 → Int32 → (Nat → Nat → Int32) → (Nat → Nat → Int32) → (Nat → Nat → Int32) → (Nat → Int32) → (Nat → Int32) → (Nat → Int32) → Prop) (X : String → (Nat → Int32) → (Nat → Int32) → Int32 → Int32 → (Nat → Nat → Int32) → (Nat → Nat → Int32) → (Nat → Nat → Int32) → (Nat → Int32) → (Nat → Int32) → (Nat → Int32) → Prop) (db : Nat → Int32) (de : Nat → Int32) (so : Int32) (sn : Int32) (sb : Nat → Nat → Int32) (se : Nat → Nat → Int32) (sf : Nat → Nat → Int32) (sc : Nat → Int32) (sp : Nat → Int32) (sk : Nat → Int32) (x1 : Int32) (x2 : Int32) (x3 : Int32) : Prop :=
    (wn_X1_quartersOf db de x1 (fun (r3 : Int32) => (wn_X3_save so sn sb se sf sc sp sk db de df dc dp dk (fun (so_4 : Int32) (sn_5 : Int32) (sb_6 : Nat → Nat → Int32) (se_7 : Nat → Nat → Int32) (sf_8 : Nat → Nat → Int32) (sc_9 : Nat → Int32) (sp_10 : Nat → Int32) (sk_11 : Nat → Int32) => (vp_in x1 14 ∧ (vp_in x1 14 ∧ (wn_X1_quartersOf (upd db x1.toNatClampNeg x2) (upd de x1.toNatClampNeg x3) x1 (fun (r14 : Int32) => (Q (r14 - r3) (upd db x1.toNatClampNeg x2) (upd de x1.toNatClampNeg x3) so_4 sn_5 sb_6 se_7 sf_8 sc_9 sp_10 sk_11)))))))))
def wx_X5_move (db : Nat → Int32) (de : Nat → Int32) (df : Nat → Int32) (dc : Int32) (dp : Int32) (dk : Int32) (so : Int32) (sn : Int32) (sb : Nat → Nat → Int32) (se : Nat → Nat → Int32) (sf : Nat → Nat → Int32) (sc : Nat → Int32) (sp : Nat → Int32) (sk : Nat → Int32) (a1 : Int32) (a2 : Int32) (a3 : Int32) (Q : Int32 → (Nat → Int32) → (Nat → Int32) → Int32 → Int32 → (Nat → Nat → Int32) → (Nat → Nat → Int32) → (Nat → Nat → Int32) → (Nat → Int32) → (Nat → Int32) → (Nat → Int32) → Prop) (X : String → (Nat → Int32) → (Nat → Int32) → Int32 → Int32 → (Nat → Nat → Int32) → (Nat → Nat → Int32) → (Nat → Nat → Int32) → (Nat → Int32) → (Nat → Int32) → (Nat → Int32) → Prop) : Prop :=
  (wx_X5_requireRehearsal dc a1 (wx_X5_requireTimes a2 a3 (wn_X1_hasBooked dk a1 (fun (r1 : Int32) => ((r1 = 0 → (wj_x_X5_move_44 df dc dp dk Q X db de so sn sb se sf sc sp sk a1 a2 a3)) ∧ (¬ r1 = 0 → (wn_X1_bookingsAllow db de dc dp dk a1 a2 a3 (fun (r15 : Int32) => ((¬ r15 = 0 → (wj_x_X5_move_44 df dc dp dk Q X db de so sn sb se sf sc sp sk a1 a2 a3)) ∧ (r15 = 0 → (X "java/lang/IllegalStateException" db de so sn sb se sf sc sp sk))))))))) (fun (E : String) => X E db de so sn sb se sf sc sp sk)) (fun (E : String) => X E db de so sn sb se sf sc sp sk))
def wx_X5_changeFame (db : Nat → Int32) (de : Nat → Int32) (df : Nat → Int32) (dc : Int32) (dp : Int32) (dk : Int32) (so : Int32) (sn : Int32) (sb : Nat → Nat → Int32) (se : Nat → Nat → Int32) (sf : Nat → Nat → Int32) (sc : Nat → Int32) (sp : Nat → Int32) (sk : Nat → Int32) (a1 : Int32) (a2 : Int32) (Q : Int32 → (Nat → Int32) → Int32 → Int32 → (Nat → Nat → Int32) → (Nat → Nat → Int32) → (Nat → Nat → Int32) → (Nat → Int32) → (Nat → Int32) → (Nat → Int32) → Prop) (X : String → (Nat → Int32) → Int32 → Int32 → (Nat → Nat → Int32) → (Nat → Nat → Int32) → (Nat → Nat → Int32) → (Nat → Int32) → (Nat → Int32) → (Nat → Int32) → Prop) : Prop :=
  (wx_X5_requireRehearsal dc a1 (wx_X5_requireFame a2 (vp_in a1 14 ∧ (wn_X3_save so sn sb se sf sc sp sk db de df dc dp dk (fun (so_2 : Int32) (sn_3 : Int32) (sb_4 : Nat → Nat → Int32) (se_5 : Nat → Nat → Int32) (sf_6 : Nat → Nat → Int32) (sc_7 : Nat → Int32) (sp_8 : Nat → Int32) (sk_9 : Nat → Int32) => (vp_in a1 14 ∧ (Q (df a1.toNatClampNeg) (upd df a1.toNatClampNeg a2) so_2 sn_3 sb_4 se_5 sf_6 sc_7 sp_8 sk_9))))) (fun (E : String) => X E df so sn sb se sf sc sp sk)) (fun (E : String) => X E df so sn sb se sf sc sp sk))
def wj_x_X5_changePause_10 (db : Nat → Int32) (de : Nat → Int32) (df : Nat → Int32) (dc : Int32) (dk : Int32) (Q : Int32 → Int32 → Int32 → Int32 → (Nat → Nat → Int32) → (Nat → Nat → Int32) → (Nat → Nat → Int32) → (Nat → Int32) → (Nat → Int32) → (Nat → Int32) → Prop) (X : String → Int32 → Int32 → Int32 → (Nat → Nat → Int32) → (Nat → Nat → Int32) → (Nat → Nat → Int32) → (Nat → Int32) → (Nat → Int32) → (Nat → Int32) → Prop) (dp : Int32) (so : Int32) (sn : Int32) (sb : Nat → Nat → Int32) (se : Nat → Nat → Int32) (sf : Nat → Nat → Int32) (sc : Nat → Int32) (sp : Nat → Int32) (sk : Nat → Int32) (x1 : Int32) : Prop :=
    (X "java/lang/IllegalArgumentException" dp so sn sb se sf sc sp sk)
def wx_X5_changePause (db : Nat → Int32) (de : Nat → Int32) (df : Nat → Int32) (dc : Int32) (dp : Int32) (dk : Int32) (so : Int32) (sn : Int32) (sb : Nat → Nat → Int32) (se : Nat → Nat → Int32) (sf : Nat → Nat → Int32) (sc : Nat → Int32) (sp : Nat → Int32) (sk : Nat → Int32) (a1 : Int32) (Q : Int32 → Int32 → Int32 → Int32 → (Nat → Nat → Int32) → (Nat → Nat → Int32) → (Nat → Nat → Int32) → (Nat → Int32) → (Nat → Int32) → (Nat → Int32) → Prop) (X : String → Int32 → Int32 → Int32 → (Nat → Nat → Int32) → (Nat → Nat → Int32) → (Nat → Nat → Int32) → (Nat → Int32) → (Nat → Int32) → (Nat → Int32) → Prop) : Prop :=
  ((a1 < 0 → (wj_x_X5_changePause_10 db de df dc dk Q X dp so sn sb se sf sc sp sk a1)) ∧ (¬ a1 < 0 → ((a1 ≤ (8 : Int32) → (wn_X1_bookingsAllowPause db de dc dk a1 (fun (r3 : Int32) => ((¬ r3 = 0 → (wn_X3_save so sn sb se sf sc sp sk db de df dc dp dk (fun (so_5 : Int32) (sn_6 : Int32) (sb_7 : Nat → Nat → Int32) (se_8 : Nat → Nat → Int32) (sf_9 : Nat → Nat → Int32) (sc_10 : Nat → Int32) (sp_11 : Nat → Int32) (sk_12 : Nat → Int32) => (Q dp a1 so_5 sn_6 sb_7 se_8 sf_9 sc_10 sp_11 sk_12)))) ∧ (r3 = 0 → (X "java/lang/IllegalStateException" dp so sn sb se sf sc sp sk)))))) ∧ (¬ a1 ≤ (8 : Int32) → (wj_x_X5_changePause_10 db de df dc dk Q X dp so sn sb se sf sc sp sk a1)))))
def wx_X5_book (db : Nat → Int32) (de : Nat → Int32) (df : Nat → Int32) (dc : Int32) (dp : Int32) (dk : Int32) (so : Int32) (sn : Int32) (sb : Nat → Nat → Int32) (se : Nat → Nat → Int32) (sf : Nat → Nat → Int32) (sc : Nat → Int32) (sp : Nat → Int32) (sk : Nat → Int32) (a1 : Int32) (Q : Int32 → Int32 → Int32 → Int32 → (Nat → Nat → Int32) → (Nat → Nat → Int32) → (Nat → Nat → Int32) → (Nat → Int32) → (Nat → Int32) → (Nat → Int32) → Prop) (X : String → Int32 → Int32 → Int32 → (Nat → Nat → Int32) → (Nat → Nat → Int32) → (Nat → Nat → Int32) → (Nat → Int32) → (Nat → Int32) → (Nat → Int32) → Prop) : Prop :=
  (wx_X5_requireRehearsal dc a1 (wn_X1_hasBooked dk a1 (fun (r1 : Int32) => ((r1 = 0 → (wn_X1_conflictsWith db de dc dp a1 (fun (r3 : Int32) => (((r3 &&& dk) = 0 → (wn_X3_save so sn sb se sf sc sp sk db de df dc dp dk (fun (so_5 : Int32) (sn_6 : Int32) (sb_7 : Nat → Nat → Int32) (se_8 : Nat → Nat → Int32) (sf_9 : Nat → Nat → Int32) (sc_10 : Nat → Int32) (sp_11 : Nat → Int32) (sk_12 : Nat → Int32) => (wn_X5_bit a1 (fun (r13 : Int32) => (wn_X1_fameOfSet df dc (dk ||| r13) (fun (r14 : Int32) => (Q r14 (dk ||| r13) so_5 sn_6 sb_7 se_8 sf_9 sc_10 sp_11 sk_12)))))))) ∧ (¬ (r3 &&& dk) = 0 → (X "java/lang/IllegalStateException" dk so sn sb se sf sc sp sk)))))) ∧ (¬ r1 = 0 → (X "java/lang/IllegalStateException" dk so sn sb se sf sc sp sk))))) (fun (E : String) => X E dk so sn sb se sf sc sp sk))
def wx_X5_cancel (db : Nat → Int32) (de : Nat → Int32) (df : Nat → Int32) (dc : Int32) (dp : Int32) (dk : Int32) (so : Int32) (sn : Int32) (sb : Nat → Nat → Int32) (se : Nat → Nat → Int32) (sf : Nat → Nat → Int32) (sc : Nat → Int32) (sp : Nat → Int32) (sk : Nat → Int32) (a1 : Int32) (Q : Int32 → Int32 → Int32 → Int32 → (Nat → Nat → Int32) → (Nat → Nat → Int32) → (Nat → Nat → Int32) → (Nat → Int32) → (Nat → Int32) → (Nat → Int32) → Prop) (X : String → Int32 → Int32 → Int32 → (Nat → Nat → Int32) → (Nat → Nat → Int32) → (Nat → Nat → Int32) → (Nat → Int32) → (Nat → Int32) → (Nat → Int32) → Prop) : Prop :=
  (wx_X5_requireRehearsal dc a1 (wn_X1_hasBooked dk a1 (fun (r1 : Int32) => ((¬ r1 = 0 → (wn_X3_save so sn sb se sf sc sp sk db de df dc dp dk (fun (so_3 : Int32) (sn_4 : Int32) (sb_5 : Nat → Nat → Int32) (se_6 : Nat → Nat → Int32) (sf_7 : Nat → Nat → Int32) (sc_8 : Nat → Int32) (sp_9 : Nat → Int32) (sk_10 : Nat → Int32) => (wn_X5_bit a1 (fun (r11 : Int32) => (wn_X1_fameOfSet df dc (dk &&& (r11 ^^^ (-1 : Int32))) (fun (r12 : Int32) => (Q r12 (dk &&& (r11 ^^^ (-1 : Int32))) so_3 sn_4 sb_5 se_6 sf_7 sc_8 sp_9 sk_10)))))))) ∧ (r1 = 0 → (X "java/lang/IllegalStateException" dk so sn sb se sf sc sp sk))))) (fun (E : String) => X E dk so sn sb se sf sc sp sk))
def wn_J6_bitCount_0f7a4 (a0 : Int32) (Q : Int32 → Prop) : Prop :=
  (∀ v1 : Int32, v1 = (a0 - ((a0.toUInt32 >>> ((1 : Int32).toUInt32 &&& Int32.toUInt32 31)).toInt32 &&& (1431655765 : Int32))) → (∀ v2 : Int32, v2 = ((v1 &&& (858993459 : Int32)) + ((v1.toUInt32 >>> ((2 : Int32).toUInt32 &&& Int32.toUInt32 31)).toInt32 &&& (858993459 : Int32))) → (∀ v3 : Int32, v3 = ((v2 + (v2.toUInt32 >>> ((4 : Int32).toUInt32 &&& Int32.toUInt32 31)).toInt32) &&& (252645135 : Int32)) → (∀ v4 : Int32, v4 = (v3 + (v3.toUInt32 >>> ((8 : Int32).toUInt32 &&& Int32.toUInt32 31)).toInt32) → (∀ v5 : Int32, v5 = (v4 + (v4.toUInt32 >>> ((16 : Int32).toUInt32 &&& Int32.toUInt32 31)).toInt32) → (Q (v5 &&& (63 : Int32))))))))
def wn_X5_bookBest (db : Nat → Int32) (de : Nat → Int32) (df : Nat → Int32) (dc : Int32) (dp : Int32) (dk : Int32) (so : Int32) (sn : Int32) (sb : Nat → Nat → Int32) (se : Nat → Nat → Int32) (sf : Nat → Nat → Int32) (sc : Nat → Int32) (sp : Nat → Int32) (sk : Nat → Int32) (ho : Nat → Int32) (ht : Nat → Int32) (Q : Int32 → Int32 → Int32 → Int32 → (Nat → Nat → Int32) → (Nat → Nat → Int32) → (Nat → Nat → Int32) → (Nat → Int32) → (Nat → Int32) → (Nat → Int32) → (Nat → Int32) → (Nat → Int32) → Prop) : Prop :=
  (wn_X3_save so sn sb se sf sc sp sk db de df dc dp dk (fun (so_1 : Int32) (sn_2 : Int32) (sb_3 : Nat → Nat → Int32) (se_4 : Nat → Nat → Int32) (sf_5 : Nat → Nat → Int32) (sc_6 : Nat → Int32) (sp_7 : Nat → Int32) (sk_8 : Nat → Int32) => (wn_X0_bestSet ho ht db de df dc dp (fun (r9 : Int32) (ho_10 : Nat → Int32) (ht_11 : Nat → Int32) => (wn_J6_bitCount_0f7a4 r9 (fun (r12 : Int32) => (Q r12 r9 so_1 sn_2 sb_3 se_4 sf_5 sc_6 sp_7 sk_8 ho_10 ht_11)))))))
def wj_x_X5_append_12 (Q : Int32 → (Nat → Int32) → Int32 → Prop) (X : String → (Nat → Int32) → Int32 → Prop) (tc : Nat → Int32) (tl : Int32) (x1 : Int32) : Prop :=
    (X "java/lang/IllegalArgumentException" tc tl)
def wx_X5_append (tc : Nat → Int32) (tl : Int32) (a1 : Int32) (Q : Int32 → (Nat → Int32) → Int32 → Prop) (X : String → (Nat → Int32) → Int32 → Prop) : Prop :=
  ((a1 < (33 : Int32) → (wj_x_X5_append_12 Q X tc tl a1)) ∧ (¬ a1 < (33 : Int32) → ((a1 ≤ (126 : Int32) → ((tl < (60 : Int32) → (wn_X4_put tc tl a1 (fun (tc_4 : Nat → Int32) (tl_5 : Int32) => (Q tl_5 tc_4 tl_5)))) ∧ (¬ tl < (60 : Int32) → (X "java/lang/IllegalStateException" tc tl)))) ∧ (¬ a1 ≤ (126 : Int32) → (wj_x_X5_append_12 Q X tc tl a1)))))
def wn_X5_clearBuffer (tl : Int32) (Q : Int32 → Int32 → Prop) : Prop :=
  (Q tl (0 : Int32))
def wn_X5_firstError (tc : Nat → Int32) (tl : Int32) (tn : Nat → Int32) (tf : Int32) (tv : Int32) (Q : Int32 → (Nat → Int32) → Int32 → Int32 → Prop) : Prop :=
  (wn_X4_scan tc tl tn tf tv (fun (r1 : Int32) (tn_2 : Nat → Int32) (tf_3 : Int32) (tv_4 : Int32) => (Q r1 tn_2 tf_3 tv_4)))
def wj_x_X5_read_20 (dp : Int32) (dk : Int32) (tc : Nat → Int32) (Q : Int32 → (Nat → Int32) → (Nat → Int32) → (Nat → Int32) → Int32 → Int32 → Int32 → (Nat → Nat → Int32) → (Nat → Nat → Int32) → (Nat → Nat → Int32) → (Nat → Int32) → (Nat → Int32) → (Nat → Int32) → Int32 → (Nat → Int32) → Int32 → Int32 → Prop) (X : String → (Nat → Int32) → (Nat → Int32) → (Nat → Int32) → Int32 → Int32 → Int32 → (Nat → Nat → Int32) → (Nat → Nat → Int32) → (Nat → Nat → Int32) → (Nat → Int32) → (Nat → Int32) → (Nat → Int32) → Int32 → (Nat → Int32) → Int32 → Int32 → Prop) (db : Nat → Int32) (de : Nat → Int32) (df : Nat → Int32) (dc : Int32) (so : Int32) (sn : Int32) (sb : Nat → Nat → Int32) (se : Nat → Nat → Int32) (sf : Nat → Nat → Int32) (sc : Nat → Int32) (sp : Nat → Int32) (sk : Nat → Int32) (tl : Int32) (tn : Nat → Int32) (tf : Int32) (tv : Int32) : Prop :=
    (X "java/lang/IllegalArgumentException" db de df dc so sn sb se sf sc sp sk tl tn tf tv)
def wl_x_X5_read_54 (dp : Int32) (dk : Int32) (tc : Nat → Int32) (Q : Int32 → (Nat → Int32) → (Nat → Int32) → (Nat → Int32) → Int32 → Int32 → Int32 → (Nat → Nat → Int32) → (Nat → Nat → Int32) → (Nat → Nat → Int32) → (Nat → Int32) → (Nat → Int32) → (Nat → Int32) → Int32 → (Nat → Int32) → Int32 → Int32 → Prop) (X : String → (Nat → Int32) → (Nat → Int32) → (Nat → Int32) → Int32 → Int32 → Int32 → (Nat → Nat → Int32) → (Nat → Nat → Int32) → (Nat → Nat → Int32) → (Nat → Int32) → (Nat → Int32) → (Nat → Int32) → Int32 → (Nat → Int32) → Int32 → Int32 → Prop) : Nat → (Nat → Int32) → (Nat → Int32) → (Nat → Int32) → Int32 → Int32 → Int32 → (Nat → Nat → Int32) → (Nat → Nat → Int32) → (Nat → Nat → Int32) → (Nat → Int32) → (Nat → Int32) → (Nat → Int32) → Int32 → (Nat → Int32) → Int32 → Int32 → Int32 → Prop
  | 0, _, _, _, _, _, _, _, _, _, _, _, _, _, _, _, _, _ => False
  | n + 1, db, de, df, dc, so, sn, sb, se, sf, sc, sp, sk, tl, tn, tf, tv, x1 =>
    (wn_X4_parts tf (fun (r17 : Int32) => ((r17 ≤ x1 → (Q dc db de df dc so sn sb se sf sc sp sk (0 : Int32) tn tf tv)) ∧ (¬ r17 ≤ x1 → (wn_X4_beginIn tn x1 (fun (r19 : Int32) => (wn_X4_endIn tn x1 (fun (r20 : Int32) => (wn_X4_fameIn tn x1 (fun (r21 : Int32) => (wn_X1_takeOn db de df dc r19 r20 r21 (fun (db_22 : Nat → Int32) (de_23 : Nat → Int32) (df_24 : Nat → Int32) (dc_25 : Int32) => (wl_x_X5_read_54 dp dk tc Q X n db_22 de_23 df_24 dc_25 so sn sb se sf sc sp sk tl tn tf tv (x1 + 1))))))))))))))
def wx_X5_read (db : Nat → Int32) (de : Nat → Int32) (df : Nat → Int32) (dc : Int32) (dp : Int32) (dk : Int32) (so : Int32) (sn : Int32) (sb : Nat → Nat → Int32) (se : Nat → Nat → Int32) (sf : Nat → Nat → Int32) (sc : Nat → Int32) (sp : Nat → Int32) (sk : Nat → Int32) (tc : Nat → Int32) (tl : Int32) (tn : Nat → Int32) (tf : Int32) (tv : Int32) (Q : Int32 → (Nat → Int32) → (Nat → Int32) → (Nat → Int32) → Int32 → Int32 → Int32 → (Nat → Nat → Int32) → (Nat → Nat → Int32) → (Nat → Nat → Int32) → (Nat → Int32) → (Nat → Int32) → (Nat → Int32) → Int32 → (Nat → Int32) → Int32 → Int32 → Prop) (X : String → (Nat → Int32) → (Nat → Int32) → (Nat → Int32) → Int32 → Int32 → Int32 → (Nat → Nat → Int32) → (Nat → Nat → Int32) → (Nat → Nat → Int32) → (Nat → Int32) → (Nat → Int32) → (Nat → Int32) → Int32 → (Nat → Int32) → Int32 → Int32 → Prop) : Prop :=
  (wn_X4_tellsRehearsals tc tl tn tf tv (fun (r1 : Int32) (tn_2 : Nat → Int32) (tf_3 : Int32) (tv_4 : Int32) => ((r1 = 0 → (wj_x_X5_read_20 dp dk tc Q X db de df dc so sn sb se sf sc sp sk tl tn_2 tf_3 tv_4)) ∧ (¬ r1 = 0 → (wn_X4_endsFit tn_2 tf_3 (fun (r6 : Int32) => ((¬ r6 = 0 → (wn_X4_parts tf_3 (fun (r8 : Int32) => (wx_X5_requirePlacesFor dc r8 (wn_X3_save so sn sb se sf sc sp sk db de df dc dp dk (fun (so_9 : Int32) (sn_10 : Int32) (sb_11 : Nat → Nat → Int32) (se_12 : Nat → Nat → Int32) (sf_13 : Nat → Nat → Int32) (sc_14 : Nat → Int32) (sp_15 : Nat → Int32) (sk_16 : Nat → Int32) => (∃ fu54, wl_x_X5_read_54 dp dk tc Q X fu54 db de df dc so_9 sn_10 sb_11 se_12 sf_13 sc_14 sp_15 sk_16 tl tn_2 tf_3 tv_4 (0 : Int32)))) (fun (E : String) => X E db de df dc so sn sb se sf sc sp sk tl tn_2 tf_3 tv_4))))) ∧ (r6 = 0 → (wj_x_X5_read_20 dp dk tc Q X db de df dc so sn sb se sf sc sp sk tl tn_2 tf_3 tv_4)))))))))
def wj_x_X5_requireSlot_9 (Q : Prop) (X : String → Prop) (x0 : Int32) : Prop :=
    (X "java/lang/IllegalArgumentException")
def wx_X5_requireSlot (a0 : Int32) (Q : Prop) (X : String → Prop) : Prop :=
  ((a0 < 0 → (wj_x_X5_requireSlot_9 Q X a0)) ∧ (¬ a0 < 0 → ((a0 < (2 : Int32) → (Q)) ∧ (¬ a0 < (2 : Int32) → (wj_x_X5_requireSlot_9 Q X a0)))))
def wx_X5_keep (db : Nat → Int32) (de : Nat → Int32) (df : Nat → Int32) (dc : Int32) (dp : Int32) (dk : Int32) (nb : Nat → Nat → Int32) (ne : Nat → Nat → Int32) (nf : Nat → Nat → Int32) (nc : Nat → Int32) (np : Nat → Int32) (nk : Nat → Int32) (tk : Nat → Int32) (a1 : Int32) (Q : (Nat → Nat → Int32) → (Nat → Nat → Int32) → (Nat → Nat → Int32) → (Nat → Int32) → (Nat → Int32) → (Nat → Int32) → (Nat → Int32) → Prop) (X : String → (Nat → Nat → Int32) → (Nat → Nat → Int32) → (Nat → Nat → Int32) → (Nat → Int32) → (Nat → Int32) → (Nat → Int32) → (Nat → Int32) → Prop) : Prop :=
  (wx_X5_requireSlot a1 (vp_in a1 2 ∧ ((a1 = 0 → (wn_X1_copyFrom (nb 0) (ne 0) (nf 0) (nc 0) (np 0) (nk 0) db de df dc dp dk (fun (db_2 : Nat → Int32) (de_3 : Nat → Int32) (df_4 : Nat → Int32) (dc_5 : Int32) (dp_6 : Int32) (dk_7 : Int32) => (vp_in a1 2 ∧ (Q (va_up nb 0 db_2) (va_up ne 0 de_3) (va_up nf 0 df_4) (va_up nc 0 dc_5) (va_up np 0 dp_6) (va_up nk 0 dk_7) (upd tk a1.toNatClampNeg (vp_nar .boolean (1 : Int32)))))))) ∧ (a1 = 1 → (wn_X1_copyFrom (nb 1) (ne 1) (nf 1) (nc 1) (np 1) (nk 1) db de df dc dp dk (fun (db_9 : Nat → Int32) (de_10 : Nat → Int32) (df_11 : Nat → Int32) (dc_12 : Int32) (dp_13 : Int32) (dk_14 : Int32) => (vp_in a1 2 ∧ (Q (va_up nb 1 db_9) (va_up ne 1 de_10) (va_up nf 1 df_11) (va_up nc 1 dc_12) (va_up np 1 dp_13) (va_up nk 1 dk_14) (upd tk a1.toNatClampNeg (vp_nar .boolean (1 : Int32)))))))))) (fun (E : String) => X E nb ne nf nc np nk tk))
def wx_X5_goBack (db : Nat → Int32) (de : Nat → Int32) (df : Nat → Int32) (dc : Int32) (dp : Int32) (dk : Int32) (so : Int32) (sn : Int32) (sb : Nat → Nat → Int32) (se : Nat → Nat → Int32) (sf : Nat → Nat → Int32) (sc : Nat → Int32) (sp : Nat → Int32) (sk : Nat → Int32) (nb : Nat → Nat → Int32) (ne : Nat → Nat → Int32) (nf : Nat → Nat → Int32) (nc : Nat → Int32) (np : Nat → Int32) (nk : Nat → Int32) (tk : Nat → Int32) (a1 : Int32) (Q : (Nat → Int32) → (Nat → Int32) → (Nat → Int32) → Int32 → Int32 → Int32 → Int32 → Int32 → (Nat → Nat → Int32) → (Nat → Nat → Int32) → (Nat → Nat → Int32) → (Nat → Int32) → (Nat → Int32) → (Nat → Int32) → Prop) (X : String → (Nat → Int32) → (Nat → Int32) → (Nat → Int32) → Int32 → Int32 → Int32 → Int32 → Int32 → (Nat → Nat → Int32) → (Nat → Nat → Int32) → (Nat → Nat → Int32) → (Nat → Int32) → (Nat → Int32) → (Nat → Int32) → Prop) : Prop :=
  (wx_X5_requireSlot a1 (vp_in a1 2 ∧ ((¬ (tk a1.toNatClampNeg) = 0 → (wn_X3_save so sn sb se sf sc sp sk db de df dc dp dk (fun (so_3 : Int32) (sn_4 : Int32) (sb_5 : Nat → Nat → Int32) (se_6 : Nat → Nat → Int32) (sf_7 : Nat → Nat → Int32) (sc_8 : Nat → Int32) (sp_9 : Nat → Int32) (sk_10 : Nat → Int32) => (vp_in a1 2 ∧ ((a1 = 0 → (wn_X1_copyFrom db de df dc dp dk (nb 0) (ne 0) (nf 0) (nc 0) (np 0) (nk 0) (fun (db_12 : Nat → Int32) (de_13 : Nat → Int32) (df_14 : Nat → Int32) (dc_15 : Int32) (dp_16 : Int32) (dk_17 : Int32) => (Q db_12 de_13 df_14 dc_15 dp_16 dk_17 so_3 sn_4 sb_5 se_6 sf_7 sc_8 sp_9 sk_10)))) ∧ (a1 = 1 → (wn_X1_copyFrom db de df dc dp dk (nb 1) (ne 1) (nf 1) (nc 1) (np 1) (nk 1) (fun (db_18 : Nat → Int32) (de_19 : Nat → Int32) (df_20 : Nat → Int32) (dc_21 : Int32) (dp_22 : Int32) (dk_23 : Int32) => (Q db_18 de_19 df_20 dc_21 dp_22 dk_23 so_3 sn_4 sb_5 se_6 sf_7 sc_8 sp_9 sk_10))))))))) ∧ ((tk a1.toNatClampNeg) = 0 → (X "java/lang/IllegalStateException" db de df dc dp dk so sn sb se sf sc sp sk)))) (fun (E : String) => X E db de df dc dp dk so sn sb se sf sc sp sk))
def wx_X5_undo (db : Nat → Int32) (de : Nat → Int32) (df : Nat → Int32) (dc : Int32) (dp : Int32) (dk : Int32) (so : Int32) (sn : Int32) (sb : Nat → Nat → Int32) (se : Nat → Nat → Int32) (sf : Nat → Nat → Int32) (sc : Nat → Int32) (sp : Nat → Int32) (sk : Nat → Int32) (Q : (Nat → Int32) → (Nat → Int32) → (Nat → Int32) → Int32 → Int32 → Int32 → Int32 → Prop) (X : String → (Nat → Int32) → (Nat → Int32) → (Nat → Int32) → Int32 → Int32 → Int32 → Int32 → Prop) : Prop :=
  ((¬ sn = 0 → (wn_X3_restoreLatest so sn sb se sf sc sp sk db de df dc dp dk (fun (sn_2 : Int32) (db_3 : Nat → Int32) (de_4 : Nat → Int32) (df_5 : Nat → Int32) (dc_6 : Int32) (dp_7 : Int32) (dk_8 : Int32) => (Q db_3 de_4 df_5 dc_6 dp_7 dk_8 sn_2)))) ∧ (sn = 0 → (X "java/lang/IllegalStateException" db de df dc dp dk sn)))
def wn_X5_savedStates (sn : Int32) (Q : Int32 → Prop) : Prop :=
  (Q sn)
def wn_X5_rehearsals (dc : Int32) (Q : Int32 → Prop) : Prop :=
  (Q dc)
def wx_X5_beginOf (db : Nat → Int32) (dc : Int32) (a1 : Int32) (Q : Int32 → Prop) (X : String → Prop) : Prop :=
  (wx_X5_requireRehearsal dc a1 (vp_in a1 14 ∧ (Q (db a1.toNatClampNeg))) (fun (E : String) => X E))
def wx_X5_endOf (de : Nat → Int32) (dc : Int32) (a1 : Int32) (Q : Int32 → Prop) (X : String → Prop) : Prop :=
  (wx_X5_requireRehearsal dc a1 (vp_in a1 14 ∧ (Q (de a1.toNatClampNeg))) (fun (E : String) => X E))
def wx_X5_fameOf (df : Nat → Int32) (dc : Int32) (a1 : Int32) (Q : Int32 → Prop) (X : String → Prop) : Prop :=
  (wx_X5_requireRehearsal dc a1 (vp_in a1 14 ∧ (Q (df a1.toNatClampNeg))) (fun (E : String) => X E))
def wx_X5_famePerQuarter (db : Nat → Int32) (de : Nat → Int32) (df : Nat → Int32) (dc : Int32) (a1 : Int32) (Q : UInt32 → Prop) (X : String → Prop) : Prop :=
  (wx_X5_requireRehearsal dc a1 (vp_in a1 14 ∧ (wn_X1_quartersOf db de a1 (fun (r2 : Int32) => (vf_n32 (FP.fdiv (FP.i2f (df a1.toNatClampNeg)) (FP.i2f r2)) ∧ (Q (FP.fdiv (FP.i2f (df a1.toNatClampNeg)) (FP.i2f r2))))))) (fun (E : String) => X E))
def wx_X5_isBooked (dc : Int32) (dk : Int32) (a1 : Int32) (Q : Int32 → Prop) (X : String → Prop) : Prop :=
  (wx_X5_requireRehearsal dc a1 (wn_X1_hasBooked dk a1 (fun (r1 : Int32) => (Q r1))) (fun (E : String) => X E))
def wn_X5_pause (dp : Int32) (Q : Int32 → Prop) : Prop :=
  (Q dp)
def wn_X5_booked (dk : Int32) (Q : Int32 → Prop) : Prop :=
  (wn_J6_bitCount_0f7a4 dk (fun (r1 : Int32) => (Q r1)))
def wn_X5_bookedFame (df : Nat → Int32) (dc : Int32) (dk : Int32) (Q : Int32 → Prop) : Prop :=
  (wn_X1_fameOfSet df dc dk (fun (r1 : Int32) => (Q r1)))
def wx_X5_areInConflict (db : Nat → Int32) (de : Nat → Int32) (dc : Int32) (dp : Int32) (a1 : Int32) (a2 : Int32) (Q : Int32 → Prop) (X : String → Prop) : Prop :=
  (wx_X5_requireRehearsal dc a1 (wx_X5_requireRehearsal dc a2 (wn_X1_clash db de dp a1 a2 (fun (r1 : Int32) => (Q r1))) (fun (E : String) => X E)) (fun (E : String) => X E))
def wx_X5_conflictsOf (db : Nat → Int32) (de : Nat → Int32) (dc : Int32) (dp : Int32) (a1 : Int32) (Q : Int32 → Prop) (X : String → Prop) : Prop :=
  (wx_X5_requireRehearsal dc a1 (wn_X1_conflictsWith db de dc dp a1 (fun (r1 : Int32) => (wn_J6_bitCount_0f7a4 r1 (fun (r2 : Int32) => (Q r2))))) (fun (E : String) => X E))
def wl_n_X5_conflictsByPairs_19 (db : Nat → Int32) (de : Nat → Int32) (dc : Int32) (dp : Int32) (Q : Int32 → Prop) (k4 : Int32 → Int32 → Prop) : Nat → Int32 → Int32 → Int32 → Prop
  | 0, _, _, _ => False
  | n + 1, x1, x2, x3 =>
    ((dc ≤ x3 → (k4 x1 (x2 + 1))) ∧ (¬ dc ≤ x3 → (wn_X1_clash db de dp x2 x3 (fun (r3 : Int32) => ((r3 = 0 → (wl_n_X5_conflictsByPairs_19 db de dc dp Q k4 n x1 x2 (x3 + 1))) ∧ (¬ r3 = 0 → (wl_n_X5_conflictsByPairs_19 db de dc dp Q k4 n (x1 + 1) x2 (x3 + 1))))))))
def wl_n_X5_conflictsByPairs_4 (db : Nat → Int32) (de : Nat → Int32) (dc : Int32) (dp : Int32) (Q : Int32 → Prop) : Nat → Int32 → Int32 → Prop
  | 0, _, _ => False
  | n + 1, x1, x2 =>
    ((dc ≤ x2 → (Q x1)) ∧ (¬ dc ≤ x2 → (∃ fu19, wl_n_X5_conflictsByPairs_19 db de dc dp Q (fun (z0 : Int32) (z1 : Int32) => wl_n_X5_conflictsByPairs_4 db de dc dp Q n z0 z1) fu19 x1 x2 (x2 + (1 : Int32)))))
def wn_X5_conflictsByPairs (db : Nat → Int32) (de : Nat → Int32) (dc : Int32) (dp : Int32) (Q : Int32 → Prop) : Prop :=
  (∃ fu4, wl_n_X5_conflictsByPairs_4 db de dc dp Q fu4 (0 : Int32) (0 : Int32))
def wn_X5_conflictsBySweep (db : Nat → Int32) (de : Nat → Int32) (dc : Int32) (dp : Int32) (Q : Int32 → Prop) : Prop :=
  (wn_X2_sweptPairs db de dc dp (fun (r1 : Int32) => (Q r1)))
def wn_X5_roomsBySweep (db : Nat → Int32) (de : Nat → Int32) (dc : Int32) (dp : Int32) (Q : Int32 → Prop) : Prop :=
  (wn_X2_sweptRooms db de dc dp (fun (r1 : Int32) => (Q r1)))
def wn_X5_roomsByGiving (db : Nat → Int32) (de : Nat → Int32) (dc : Int32) (dp : Int32) (ro : Nat → Int32) (rg : Nat → Int32) (Q : Int32 → (Nat → Int32) → (Nat → Int32) → Prop) : Prop :=
  (wn_X2_givenRooms ro rg db de dc dp (fun (r1 : Int32) (ro_2 : Nat → Int32) (rg_3 : Nat → Int32) => (Q r1 ro_2 rg_3)))
def wx_X5_roomOf (db : Nat → Int32) (de : Nat → Int32) (dc : Int32) (dp : Int32) (ro : Nat → Int32) (rg : Nat → Int32) (a1 : Int32) (Q : Int32 → (Nat → Int32) → (Nat → Int32) → Prop) (X : String → (Nat → Int32) → (Nat → Int32) → Prop) : Prop :=
  (wx_X5_requireRehearsal dc a1 (wn_X2_givenTo ro rg db de dc dp a1 (fun (r1 : Int32) (ro_2 : Nat → Int32) (rg_3 : Nat → Int32) => (Q r1 ro_2 rg_3))) (fun (E : String) => X E ro rg))
def wn_X5_bestByTrying (db : Nat → Int32) (de : Nat → Int32) (df : Nat → Int32) (dc : Int32) (dp : Int32) (hc : Nat → Int32) (Q : Int32 → (Nat → Int32) → Prop) : Prop :=
  (wn_X0_triedFame hc db de df dc dp (fun (r1 : Int32) (hc_2 : Nat → Int32) => (Q r1 hc_2)))
def wn_X5_bestByTable (db : Nat → Int32) (de : Nat → Int32) (df : Nat → Int32) (dc : Int32) (dp : Int32) (ho : Nat → Int32) (ht : Nat → Int32) (Q : Int32 → (Nat → Int32) → (Nat → Int32) → Prop) : Prop :=
  (wn_X1_all dc (fun (r1 : Int32) => (wn_X0_fameAmong ho ht db de df dc dp r1 (fun (r2 : Int32) (ho_3 : Nat → Int32) (ht_4 : Nat → Int32) => (Q r2 ho_3 ht_4)))))
def wn_X5_bestChoice (db : Nat → Int32) (de : Nat → Int32) (df : Nat → Int32) (dc : Int32) (dp : Int32) (ho : Nat → Int32) (ht : Nat → Int32) (Q : Int32 → (Nat → Int32) → (Nat → Int32) → Prop) : Prop :=
  (wn_X0_bestSet ho ht db de df dc dp (fun (r1 : Int32) (ho_2 : Nat → Int32) (ht_3 : Nat → Int32) => (Q r1 ho_2 ht_3)))
def wn_X5_mostRehearsals (db : Nat → Int32) (de : Nat → Int32) (dc : Int32) (dp : Int32) (ho : Nat → Int32) (Q : Int32 → (Nat → Int32) → Prop) : Prop :=
  (wn_X0_mostInOne ho db de dc dp (fun (r1 : Int32) (ho_2 : Nat → Int32) => (Q r1 ho_2)))
def wx_X5_bestWith (db : Nat → Int32) (de : Nat → Int32) (df : Nat → Int32) (dc : Int32) (dp : Int32) (ho : Nat → Int32) (ht : Nat → Int32) (a1 : Int32) (Q : Int32 → (Nat → Int32) → (Nat → Int32) → Prop) (X : String → (Nat → Int32) → (Nat → Int32) → Prop) : Prop :=
  (wx_X5_requireRehearsal dc a1 (wn_X1_all dc (fun (r1 : Int32) => (wn_X5_bit a1 (fun (r2 : Int32) => (wn_X1_conflictsWith db de dc dp a1 (fun (r3 : Int32) => (vp_in a1 14 ∧ (wn_X0_fameAmong ho ht db de df dc dp ((r1 &&& (r2 ^^^ (-1 : Int32))) &&& (r3 ^^^ (-1 : Int32))) (fun (r5 : Int32) (ho_6 : Nat → Int32) (ht_7 : Nat → Int32) => (Q ((df a1.toNatClampNeg) + r5) ho_6 ht_7)))))))))) (fun (E : String) => X E ho ht))
def wn_X5_bookedShare (db : Nat → Int32) (de : Nat → Int32) (dc : Int32) (dk : Int32) (Q : UInt64 → Prop) : Prop :=
  (wn_X1_quartersOfSet db de dc dk (fun (r1 : Int32) => (vf_n64 (FP.ddiv (FP.i2d r1) (4636455816377925632 : UInt64)) ∧ (Q (FP.ddiv (FP.i2d r1) (4636455816377925632 : UInt64))))))
def wn_X5_mix (a0 : Int64) (a2 : Int64) (Q : Int64 → Prop) : Prop :=
  (Q (((31 : Int64) * a0) + a2))
def wj_n_X5_bitsOf_72 (Q : Int64 → Prop) (x0 : UInt64) (x2 : Int32) (x3 : Int32) (x4 : UInt64) (x6 : Int32) : Prop :=
    (vf_n64 (FP.dsub x4 FP.dconst1) ∧ (vf_n64 (FP.dmul (FP.dsub x4 FP.dconst1) (FP.l2d ((1 : Int64) <<< (x2.toInt64 &&& 63)))) ∧ (∀ v6 : Int64, v6 = (FP.d2l (FP.dmul (FP.dsub x4 FP.dconst1) (FP.l2d ((1 : Int64) <<< (x2.toInt64 &&& 63))))) → (Q ((x6.toInt64 <<< (x2.toInt64 &&& 63)) + v6)))))
def wl_n_X5_bitsOf_45 (Q : Int64 → Prop) : Nat → UInt64 → Int32 → Int32 → UInt64 → Int32 → Prop
  | 0, _, _, _, _, _ => False
  | n + 1, x0, x2, x3, x4, x6 =>
    ((0 ≤ (Op.cmpValue (FP.dcmp x4 FP.dconst1) .g) → (wj_n_X5_bitsOf_72 Q x0 x2 x3 x4 x6)) ∧ (¬ 0 ≤ (Op.cmpValue (FP.dcmp x4 FP.dconst1) .g) → ((x6 ≤ (1 : Int32) → (wj_n_X5_bitsOf_72 Q x0 x2 x3 x4 x6)) ∧ (¬ x6 ≤ (1 : Int32) → (vf_n64 (FP.dmul x4 (4611686018427387904 : UInt64)) ∧ (wl_n_X5_bitsOf_45 Q n x0 x2 x3 (FP.dmul x4 (4611686018427387904 : UInt64)) (x6 + (-1))))))))
def wl_n_X5_bitsOf_14 (Q : Int64 → Prop) : Nat → UInt64 → Int32 → Int32 → UInt64 → Int32 → Prop
  | 0, _, _, _, _, _ => False
  | n + 1, x0, x2, x3, x4, x6 =>
    (((Op.cmpValue (FP.dcmp x4 (4611686018427387904 : UInt64)) .l) < 0 → (∃ fu45, wl_n_X5_bitsOf_45 Q fu45 x0 x2 x3 x4 x6)) ∧ (¬ (Op.cmpValue (FP.dcmp x4 (4611686018427387904 : UInt64)) .l) < 0 → ((((2 : Int32) * x3) ≤ x6 → (∃ fu45, wl_n_X5_bitsOf_45 Q fu45 x0 x2 x3 x4 x6)) ∧ (¬ ((2 : Int32) * x3) ≤ x6 → (vf_n64 (FP.ddiv x4 (4611686018427387904 : UInt64)) ∧ (wl_n_X5_bitsOf_14 Q n x0 x2 x3 (FP.ddiv x4 (4611686018427387904 : UInt64)) (x6 + 1)))))))
def wn_X5_bitsOf (a0 : UInt64) (a2 : Int32) (a3 : Int32) (Q : Int64 → Prop) : Prop :=
  ((0 < (Op.cmpValue (FP.dcmp a0 FP.dconst0) .l) → (∃ fu14, wl_n_X5_bitsOf_14 Q fu14 a0 a2 a3 a0 a3)) ∧ (¬ 0 < (Op.cmpValue (FP.dcmp a0 FP.dconst0) .l) → (Q (0 : Int64))))
def wn_X5_doubleBits (a0 : UInt64) (Q : Int64 → Prop) : Prop :=
  (wn_X5_bitsOf a0 (52 : Int32) (1023 : Int32) (fun (r1 : Int64) => (Q r1)))
def wn_X5_mixWhole (db : Nat → Int32) (de : Nat → Int32) (df : Nat → Int32) (dc : Int32) (dp : Int32) (dk : Int32) (sn : Int32) (ro : Nat → Int32) (rg : Nat → Int32) (ho : Nat → Int32) (hc : Nat → Int32) (ht : Nat → Int32) (a1 : Int64) (Q : Int64 → (Nat → Int32) → (Nat → Int32) → (Nat → Int32) → (Nat → Int32) → (Nat → Int32) → Prop) : Prop :=
  (wn_X5_pause dp (fun (r1 : Int32) => (wn_X5_mix a1 r1.toInt64 (fun (r2 : Int64) => (wn_X5_booked dk (fun (r3 : Int32) => (wn_X5_mix r2 r3.toInt64 (fun (r4 : Int64) => (wn_X5_bookedFame df dc dk (fun (r5 : Int32) => (wn_X5_mix r4 r5.toInt64 (fun (r6 : Int64) => (wn_X5_conflictsByPairs db de dc dp (fun (r7 : Int32) => (wn_X5_mix r6 r7.toInt64 (fun (r8 : Int64) => (wn_X5_conflictsBySweep db de dc dp (fun (r9 : Int32) => (wn_X5_mix r8 r9.toInt64 (fun (r10 : Int64) => (wn_X5_roomsBySweep db de dc dp (fun (r11 : Int32) => (wn_X5_mix r10 r11.toInt64 (fun (r12 : Int64) => (wn_X5_roomsByGiving db de dc dp ro rg (fun (r13 : Int32) (ro_14 : Nat → Int32) (rg_15 : Nat → Int32) => (wn_X5_mix r12 r13.toInt64 (fun (r16 : Int64) => (wn_X5_bestByTrying db de df dc dp hc (fun (r17 : Int32) (hc_18 : Nat → Int32) => (wn_X5_mix r16 r17.toInt64 (fun (r19 : Int64) => (wn_X5_bestByTable db de df dc dp ho ht (fun (r20 : Int32) (ho_21 : Nat → Int32) (ht_22 : Nat → Int32) => (wn_X5_mix r19 r20.toInt64 (fun (r23 : Int64) => (wn_X5_bestChoice db de df dc dp ho_21 ht_22 (fun (r24 : Int32) (ho_25 : Nat → Int32) (ht_26 : Nat → Int32) => (wn_X5_mix r23 r24.toInt64 (fun (r27 : Int64) => (wn_X5_mostRehearsals db de dc dp ho_25 (fun (r28 : Int32) (ho_29 : Nat → Int32) => (wn_X5_mix r27 r28.toInt64 (fun (r30 : Int64) => (wn_X5_savedStates sn (fun (r31 : Int32) => (wn_X5_mix r30 r31.toInt64 (fun (r32 : Int64) => (wn_X5_bookedShare db de dc dk (fun (r33 : UInt64) => (wn_X5_doubleBits r33 (fun (r34 : Int64) => (wn_X5_mix r32 r34 (fun (r35 : Int64) => (Q r35 ro_14 rg_15 ho_29 hc_18 ht_26)))))))))))))))))))))))))))))))))))))))))))))))))))))))
def wj_n_X5_requireRehearsal_15 (dc : Int32) (Q : Prop) (x1 : Int32) : Prop :=
    False
def wn_X5_requireRehearsal (dc : Int32) (a1 : Int32) (Q : Prop) : Prop :=
  ((a1 < 0 → (wj_n_X5_requireRehearsal_15 dc Q a1)) ∧ (¬ a1 < 0 → ((a1 < dc → (Q)) ∧ (¬ a1 < dc → (wj_n_X5_requireRehearsal_15 dc Q a1)))))
def wn_X5_beginOf (db : Nat → Int32) (dc : Int32) (a1 : Int32) (Q : Int32 → Prop) : Prop :=
  (wn_X5_requireRehearsal dc a1 (vp_in a1 14 ∧ (Q (db a1.toNatClampNeg))))
def wn_X5_endOf (de : Nat → Int32) (dc : Int32) (a1 : Int32) (Q : Int32 → Prop) : Prop :=
  (wn_X5_requireRehearsal dc a1 (vp_in a1 14 ∧ (Q (de a1.toNatClampNeg))))
def wn_X5_fameOf (df : Nat → Int32) (dc : Int32) (a1 : Int32) (Q : Int32 → Prop) : Prop :=
  (wn_X5_requireRehearsal dc a1 (vp_in a1 14 ∧ (Q (df a1.toNatClampNeg))))
def wn_X5_famePerQuarter (db : Nat → Int32) (de : Nat → Int32) (df : Nat → Int32) (dc : Int32) (a1 : Int32) (Q : UInt32 → Prop) : Prop :=
  (wn_X5_requireRehearsal dc a1 (vp_in a1 14 ∧ (wn_X1_quartersOf db de a1 (fun (r2 : Int32) => (vf_n32 (FP.fdiv (FP.i2f (df a1.toNatClampNeg)) (FP.i2f r2)) ∧ (Q (FP.fdiv (FP.i2f (df a1.toNatClampNeg)) (FP.i2f r2))))))))
def wn_X5_floatBits (a0 : UInt32) (Q : Int64 → Prop) : Prop :=
  (vf_n64 (FP.f2d a0) ∧ (wn_X5_bitsOf (FP.f2d a0) (23 : Int32) (127 : Int32) (fun (r2 : Int64) => (Q r2))))
def wn_X5_isBooked (dc : Int32) (dk : Int32) (a1 : Int32) (Q : Int32 → Prop) : Prop :=
  (wn_X5_requireRehearsal dc a1 (wn_X1_hasBooked dk a1 (fun (r1 : Int32) => (Q r1))))
def wn_X5_conflictsOf (db : Nat → Int32) (de : Nat → Int32) (dc : Int32) (dp : Int32) (a1 : Int32) (Q : Int32 → Prop) : Prop :=
  (wn_X5_requireRehearsal dc a1 (wn_X1_conflictsWith db de dc dp a1 (fun (r1 : Int32) => (wn_J6_bitCount_0f7a4 r1 (fun (r2 : Int32) => (Q r2))))))
def wn_X5_roomOf (db : Nat → Int32) (de : Nat → Int32) (dc : Int32) (dp : Int32) (ro : Nat → Int32) (rg : Nat → Int32) (a1 : Int32) (Q : Int32 → (Nat → Int32) → (Nat → Int32) → Prop) : Prop :=
  (wn_X5_requireRehearsal dc a1 (wn_X2_givenTo ro rg db de dc dp a1 (fun (r1 : Int32) (ro_2 : Nat → Int32) (rg_3 : Nat → Int32) => (Q r1 ro_2 rg_3))))
def wn_X5_bestWith (db : Nat → Int32) (de : Nat → Int32) (df : Nat → Int32) (dc : Int32) (dp : Int32) (ho : Nat → Int32) (ht : Nat → Int32) (a1 : Int32) (Q : Int32 → (Nat → Int32) → (Nat → Int32) → Prop) : Prop :=
  (wn_X5_requireRehearsal dc a1 (wn_X1_all dc (fun (r1 : Int32) => (wn_X5_bit a1 (fun (r2 : Int32) => (wn_X1_conflictsWith db de dc dp a1 (fun (r3 : Int32) => (vp_in a1 14 ∧ (wn_X0_fameAmong ho ht db de df dc dp ((r1 &&& (r2 ^^^ (-1 : Int32))) &&& (r3 ^^^ (-1 : Int32))) (fun (r5 : Int32) (ho_6 : Nat → Int32) (ht_7 : Nat → Int32) => (Q ((df a1.toNatClampNeg) + r5) ho_6 ht_7)))))))))))
def wj_n_X5_mixRehearsal_68 (db : Nat → Int32) (de : Nat → Int32) (df : Nat → Int32) (dc : Int32) (dp : Int32) (dk : Int32) (Q : Int64 → (Nat → Int32) → (Nat → Int32) → (Nat → Int32) → (Nat → Int32) → Prop) (ro : Nat → Int32) (rg : Nat → Int32) (ho : Nat → Int32) (ht : Nat → Int32) (x1 : Int64) (x3 : Int32) (x4 : Int64) (y0 : Int64) (y1 : Int64) : Prop :=
    (wn_X5_mix y0 y1 (fun (r12 : Int64) => (wn_X5_conflictsOf db de dc dp x3 (fun (r13 : Int32) => (wn_X5_mix r12 r13.toInt64 (fun (r14 : Int64) => (wn_X5_roomOf db de dc dp ro rg x3 (fun (r15 : Int32) (ro_16 : Nat → Int32) (rg_17 : Nat → Int32) => (wn_X5_mix r14 r15.toInt64 (fun (r18 : Int64) => (wn_X5_bestWith db de df dc dp ho ht x3 (fun (r19 : Int32) (ho_20 : Nat → Int32) (ht_21 : Nat → Int32) => (wn_X5_mix r18 r19.toInt64 (fun (r22 : Int64) => (Q r22 ro_16 rg_17 ho_20 ht_21)))))))))))))))
def wn_X5_mixRehearsal (db : Nat → Int32) (de : Nat → Int32) (df : Nat → Int32) (dc : Int32) (dp : Int32) (dk : Int32) (ro : Nat → Int32) (rg : Nat → Int32) (ho : Nat → Int32) (ht : Nat → Int32) (a1 : Int64) (a3 : Int32) (Q : Int64 → (Nat → Int32) → (Nat → Int32) → (Nat → Int32) → (Nat → Int32) → Prop) : Prop :=
  (wn_X5_beginOf db dc a3 (fun (r1 : Int32) => (wn_X5_mix a1 r1.toInt64 (fun (r2 : Int64) => (wn_X5_endOf de dc a3 (fun (r3 : Int32) => (wn_X5_mix r2 r3.toInt64 (fun (r4 : Int64) => (wn_X5_fameOf df dc a3 (fun (r5 : Int32) => (wn_X5_mix r4 r5.toInt64 (fun (r6 : Int64) => (wn_X5_famePerQuarter db de df dc a3 (fun (r7 : UInt32) => (wn_X5_floatBits r7 (fun (r8 : Int64) => (wn_X5_mix r6 r8 (fun (r9 : Int64) => (wn_X5_isBooked dc dk a3 (fun (r10 : Int32) => ((r10 = 0 → (wj_n_X5_mixRehearsal_68 db de df dc dp dk Q ro rg ho ht a1 a3 r9 r9 (0 : Int64))) ∧ (¬ r10 = 0 → (wj_n_X5_mixRehearsal_68 db de df dc dp dk Q ro rg ho ht a1 a3 r9 r9 (1 : Int64))))))))))))))))))))))))
def wl_n_X5_digest_91 (db : Nat → Int32) (de : Nat → Int32) (df : Nat → Int32) (dc : Int32) (dp : Int32) (dk : Int32) (sn : Int32) (tk : Nat → Int32) (tc : Nat → Int32) (tl : Int32) (Q : Int64 → (Nat → Int32) → (Nat → Int32) → (Nat → Int32) → (Nat → Int32) → (Nat → Int32) → Prop) : Nat → (Nat → Int32) → (Nat → Int32) → (Nat → Int32) → (Nat → Int32) → (Nat → Int32) → Int64 → Int32 → Prop
  | 0, _, _, _, _, _, _, _ => False
  | n + 1, ro, rg, ho, hc, ht, x1, x3 =>
    ((tl ≤ x3 → (Q x1 ro rg ho hc ht)) ∧ (¬ tl ≤ x3 → (vp_in x3 60 ∧ (wn_X5_mix x1 ((tc x3.toNatClampNeg).toInt64) (fun (r14 : Int64) => (wl_n_X5_digest_91 db de df dc dp dk sn tk tc tl Q n ro rg ho hc ht r14 (x3 + 1)))))))
def wj_n_X5_digest_66 (db : Nat → Int32) (de : Nat → Int32) (df : Nat → Int32) (dc : Int32) (dp : Int32) (dk : Int32) (sn : Int32) (tk : Nat → Int32) (tc : Nat → Int32) (tl : Int32) (Q : Int64 → (Nat → Int32) → (Nat → Int32) → (Nat → Int32) → (Nat → Int32) → (Nat → Int32) → Prop) (k46 : (Nat → Int32) → (Nat → Int32) → (Nat → Int32) → (Nat → Int32) → (Nat → Int32) → Int64 → Int32 → Prop) (ro : Nat → Int32) (rg : Nat → Int32) (ho : Nat → Int32) (hc : Nat → Int32) (ht : Nat → Int32) (x1 : Int64) (x3 : Int32) (y0 : Int64) (y1 : Int64) : Prop :=
    (wn_X5_mix y0 y1 (fun (r17 : Int64) => (k46 ro rg ho hc ht r17 (x3 + 1))))
def wl_n_X5_digest_46 (db : Nat → Int32) (de : Nat → Int32) (df : Nat → Int32) (dc : Int32) (dp : Int32) (dk : Int32) (sn : Int32) (tk : Nat → Int32) (tc : Nat → Int32) (tl : Int32) (Q : Int64 → (Nat → Int32) → (Nat → Int32) → (Nat → Int32) → (Nat → Int32) → (Nat → Int32) → Prop) : Nat → (Nat → Int32) → (Nat → Int32) → (Nat → Int32) → (Nat → Int32) → (Nat → Int32) → Int64 → Int32 → Prop
  | 0, _, _, _, _, _, _, _ => False
  | n + 1, ro, rg, ho, hc, ht, x1, x3 =>
    (((2 : Int32) ≤ x3 → (wn_X5_mix x1 tl.toInt64 (fun (r11 : Int64) => (∃ fu91, wl_n_X5_digest_91 db de df dc dp dk sn tk tc tl Q fu91 ro rg ho hc ht r11 (0 : Int32))))) ∧ (¬ (2 : Int32) ≤ x3 → (vp_in x3 2 ∧ (((tk x3.toNatClampNeg) = 0 → (wj_n_X5_digest_66 db de df dc dp dk sn tk tc tl Q (fun (z0 : Nat → Int32) (z1 : Nat → Int32) (z2 : Nat → Int32) (z3 : Nat → Int32) (z4 : Nat → Int32) (z5 : Int64) (z6 : Int32) => wl_n_X5_digest_46 db de df dc dp dk sn tk tc tl Q n z0 z1 z2 z3 z4 z5 z6) ro rg ho hc ht x1 x3 x1 (0 : Int64))) ∧ (¬ (tk x3.toNatClampNeg) = 0 → (wj_n_X5_digest_66 db de df dc dp dk sn tk tc tl Q (fun (z0 : Nat → Int32) (z1 : Nat → Int32) (z2 : Nat → Int32) (z3 : Nat → Int32) (z4 : Nat → Int32) (z5 : Int64) (z6 : Int32) => wl_n_X5_digest_46 db de df dc dp dk sn tk tc tl Q n z0 z1 z2 z3 z4 z5 z6) ro rg ho hc ht x1 x3 x1 (1 : Int64)))))))
def wl_n_X5_digest_14 (db : Nat → Int32) (de : Nat → Int32) (df : Nat → Int32) (dc : Int32) (dp : Int32) (dk : Int32) (sn : Int32) (tk : Nat → Int32) (tc : Nat → Int32) (tl : Int32) (Q : Int64 → (Nat → Int32) → (Nat → Int32) → (Nat → Int32) → (Nat → Int32) → (Nat → Int32) → Prop) : Nat → (Nat → Int32) → (Nat → Int32) → (Nat → Int32) → (Nat → Int32) → (Nat → Int32) → Int64 → Int32 → Prop
  | 0, _, _, _, _, _, _, _ => False
  | n + 1, ro, rg, ho, hc, ht, x1, x3 =>
    ((dc ≤ x3 → (wn_X5_mixWhole db de df dc dp dk sn ro rg ho hc ht x1 (fun (r4 : Int64) (ro_5 : Nat → Int32) (rg_6 : Nat → Int32) (ho_7 : Nat → Int32) (hc_8 : Nat → Int32) (ht_9 : Nat → Int32) => (∃ fu46, wl_n_X5_digest_46 db de df dc dp dk sn tk tc tl Q fu46 ro_5 rg_6 ho_7 hc_8 ht_9 r4 (0 : Int32))))) ∧ (¬ dc ≤ x3 → (wn_X5_mixRehearsal db de df dc dp dk ro rg ho ht x1 x3 (fun (r18 : Int64) (ro_19 : Nat → Int32) (rg_20 : Nat → Int32) (ho_21 : Nat → Int32) (ht_22 : Nat → Int32) => (wl_n_X5_digest_14 db de df dc dp dk sn tk tc tl Q n ro_19 rg_20 ho_21 hc ht_22 r18 (x3 + 1))))))
def wn_X5_digest (db : Nat → Int32) (de : Nat → Int32) (df : Nat → Int32) (dc : Int32) (dp : Int32) (dk : Int32) (sn : Int32) (tk : Nat → Int32) (tc : Nat → Int32) (tl : Int32) (ro : Nat → Int32) (rg : Nat → Int32) (ho : Nat → Int32) (hc : Nat → Int32) (ht : Nat → Int32) (Q : Int64 → (Nat → Int32) → (Nat → Int32) → (Nat → Int32) → (Nat → Int32) → (Nat → Int32) → Prop) : Prop :=
  (wn_X5_rehearsals dc (fun (r1 : Int32) => (wn_X5_mix (4327 : Int64) r1.toInt64 (fun (r2 : Int64) => (∃ fu14, wl_n_X5_digest_14 db de df dc dp dk sn tk tc tl Q fu14 ro rg ho hc ht r2 (0 : Int32))))))
def wn_X6_thrown (za : Int32) (Q : Int32 → Prop) : Prop :=
  (Q za)
def wn_X6_refused (za : Int32) (a1 : Int32) (Q : Int32 → Int32 → Prop) : Prop :=
  ((a1 = 0 → (Q (0 : Int32) a1)) ∧ (¬ a1 = 0 → (Q (1 : Int32) a1)))
def wn_X6_in (a0 : Int64) (a2 : Int64) (a4 : Int64) (Q : Int32 → Prop) : Prop :=
  (((lg_cmp a0 a2) < 0 → (Q (0 : Int32))) ∧ (¬ (lg_cmp a0 a2) < 0 → ((0 < (lg_cmp a0 a4) → (Q (0 : Int32))) ∧ (¬ 0 < (lg_cmp a0 a4) → (Q (1 : Int32))))))
def wl_n_X6_copy_2 (uu : Nat → Int32) (Q : (Nat → Int32) → Prop) : Nat → (Nat → Int32) → Int32 → Prop
  | 0, _, _ => False
  | n + 1, vv, x2 =>
    (((45 : Int32) ≤ x2 → (Q vv)) ∧ (¬ (45 : Int32) ≤ x2 → (vp_in x2 45 ∧ (vp_in x2 45 ∧ (wl_n_X6_copy_2 uu Q n (upd vv x2.toNatClampNeg (uu x2.toNatClampNeg)) (x2 + 1))))))
def wn_X6_copy (uu : Nat → Int32) (vv : Nat → Int32) (Q : (Nat → Int32) → Prop) : Prop :=
  (∃ fu2, wl_n_X6_copy_2 uu Q fu2 vv (0 : Int32))
def wn_X6_isThere (yn : Nat → Int32) (a1 : Int32) (Q : Int32 → Prop) : Prop :=
  (vp_in (44 : Int32) 45 ∧ (wn_X6_in a1.toInt64 (0 : Int64) (((yn (44 : Int32).toNatClampNeg) - (1 : Int32)).toInt64) (fun (r2 : Int32) => (Q r2))))
def wn_X6_isTime (a0 : Int32) (a1 : Int32) (Q : Int32 → Prop) : Prop :=
  (wn_X6_in a0.toInt64 (0 : Int64) (95 : Int64) (fun (r1 : Int32) => ((r1 = 0 → (Q (0 : Int32))) ∧ (¬ r1 = 0 → (wn_X6_in a1.toInt64 (1 : Int64) (96 : Int64) (fun (r3 : Int32) => ((r3 = 0 → (Q (0 : Int32))) ∧ (¬ r3 = 0 → ((a1 ≤ a0 → (Q (0 : Int32))) ∧ (¬ a1 ≤ a0 → (Q (1 : Int32))))))))))))
def wj_n_X6_clash_45 (uu : Nat → Int32) (Q : Int32 → Prop) (x1 : Int32) (x2 : Int32) (x3 : Int32) (y0 : Int32) : Prop :=
    ((x1 = x2 → (Q (0 : Int32))) ∧ (¬ x1 = x2 → ((¬ x3 = 0 → (Q (0 : Int32))) ∧ (x3 = 0 → ((¬ y0 = 0 → (Q (0 : Int32))) ∧ (y0 = 0 → (Q (1 : Int32))))))))
def wj_n_X6_clash_22 (uu : Nat → Int32) (Q : Int32 → Prop) (x1 : Int32) (x2 : Int32) (y0 : Int32) : Prop :=
    (vp_in ((14 : Int32) + x2) 45 ∧ (vp_in (43 : Int32) 45 ∧ (vp_in x1 45 ∧ (((uu x1.toNatClampNeg) < ((uu ((14 : Int32) + x2).toNatClampNeg) + (uu (43 : Int32).toNatClampNeg)) → (wj_n_X6_clash_45 uu Q x1 x2 y0 (0 : Int32))) ∧ (¬ (uu x1.toNatClampNeg) < ((uu ((14 : Int32) + x2).toNatClampNeg) + (uu (43 : Int32).toNatClampNeg)) → (wj_n_X6_clash_45 uu Q x1 x2 y0 (1 : Int32)))))))
def wn_X6_clash (uu : Nat → Int32) (a1 : Int32) (a2 : Int32) (Q : Int32 → Prop) : Prop :=
  (vp_in ((14 : Int32) + a1) 45 ∧ (vp_in (43 : Int32) 45 ∧ (vp_in a2 45 ∧ (((uu a2.toNatClampNeg) < ((uu ((14 : Int32) + a1).toNatClampNeg) + (uu (43 : Int32).toNatClampNeg)) → (wj_n_X6_clash_22 uu Q a1 a2 (0 : Int32))) ∧ (¬ (uu a2.toNatClampNeg) < ((uu ((14 : Int32) + a1).toNatClampNeg) + (uu (43 : Int32).toNatClampNeg)) → (wj_n_X6_clash_22 uu Q a1 a2 (1 : Int32)))))))
def wj_n_X6_foesOf_29 (uu : Nat → Int32) (Q : Int32 → Prop) (k4 : Int32 → Int32 → Int32 → Prop) (x1 : Int32) (x2 : Int32) (x3 : Int32) (y0 : Int32) (y1 : Int32) : Prop :=
    (k4 x1 (y0 ||| y1) (x3 + 1))
def wl_n_X6_foesOf_4 (uu : Nat → Int32) (Q : Int32 → Prop) : Nat → Int32 → Int32 → Int32 → Prop
  | 0, _, _, _ => False
  | n + 1, x1, x2, x3 =>
    (vp_in (44 : Int32) 45 ∧ (((uu (44 : Int32).toNatClampNeg) ≤ x3 → (Q x2)) ∧ (¬ (uu (44 : Int32).toNatClampNeg) ≤ x3 → (wn_X6_clash uu x1 x3 (fun (r3 : Int32) => ((r3 = 0 → (wj_n_X6_foesOf_29 uu Q (fun (z0 : Int32) (z1 : Int32) (z2 : Int32) => wl_n_X6_foesOf_4 uu Q n z0 z1 z2) x1 x2 x3 x2 (0 : Int32))) ∧ (¬ r3 = 0 → (wj_n_X6_foesOf_29 uu Q (fun (z0 : Int32) (z1 : Int32) (z2 : Int32) => wl_n_X6_foesOf_4 uu Q n z0 z1 z2) x1 x2 x3 x2 ((1 : Int32) <<< (x3 &&& 31))))))))))
def wn_X6_foesOf (uu : Nat → Int32) (a1 : Int32) (Q : Int32 → Prop) : Prop :=
  (∃ fu4, wl_n_X6_foesOf_4 uu Q fu4 a1 (0 : Int32) (0 : Int32))
def wl_n_X6_bits_4 (Q : Int32 → Prop) : Nat → Int32 → Int32 → Int32 → Prop
  | 0, _, _, _ => False
  | n + 1, x0, x1, x2 =>
    (((14 : Int32) ≤ x2 → (Q x1)) ∧ (¬ (14 : Int32) ≤ x2 → (wl_n_X6_bits_4 Q n x0 (x1 + ((x0 >>> (x2 &&& 31)) &&& (1 : Int32))) (x2 + 1))))
def wn_X6_bits (a0 : Int32) (Q : Int32 → Prop) : Prop :=
  (∃ fu4, wl_n_X6_bits_4 Q fu4 a0 (0 : Int32) (0 : Int32))
def wj_n_X6_isChoice_34 (uu : Nat → Int32) (Q : Int32 → Prop) (k4 : Int32 → Int32 → Int32 → Prop) (x1 : Int32) (x2 : Int32) (x3 : Int32) : Prop :=
    (k4 x1 (1 : Int32) (x3 + 1))
def wl_n_X6_isChoice_4 (uu : Nat → Int32) (Q : Int32 → Prop) : Nat → Int32 → Int32 → Int32 → Prop
  | 0, _, _, _ => False
  | n + 1, x1, x2, x3 =>
    (vp_in (44 : Int32) 45 ∧ (((uu (44 : Int32).toNatClampNeg) ≤ x3 → (Q x2)) ∧ (¬ (uu (44 : Int32).toNatClampNeg) ≤ x3 → ((x2 = 0 → (wl_n_X6_isChoice_4 uu Q n x1 (0 : Int32) (x3 + 1))) ∧ (¬ x2 = 0 → ((((x1 >>> (x3 &&& 31)) &&& (1 : Int32)) = 0 → (wj_n_X6_isChoice_34 uu Q (fun (z0 : Int32) (z1 : Int32) (z2 : Int32) => wl_n_X6_isChoice_4 uu Q n z0 z1 z2) x1 x2 x3)) ∧ (¬ ((x1 >>> (x3 &&& 31)) &&& (1 : Int32)) = 0 → (wn_X6_foesOf uu x3 (fun (r5 : Int32) => ((¬ (r5 &&& x1) = 0 → (wl_n_X6_isChoice_4 uu Q n x1 (0 : Int32) (x3 + 1))) ∧ ((r5 &&& x1) = 0 → (wj_n_X6_isChoice_34 uu Q (fun (z0 : Int32) (z1 : Int32) (z2 : Int32) => wl_n_X6_isChoice_4 uu Q n z0 z1 z2) x1 x2 x3))))))))))))
def wn_X6_isChoice (uu : Nat → Int32) (a1 : Int32) (Q : Int32 → Prop) : Prop :=
  (∃ fu4, wl_n_X6_isChoice_4 uu Q fu4 a1 (1 : Int32) (0 : Int32))
def wl_n_X6_pairs_4 (yn : Nat → Int32) (Q : Int32 → Prop) : Nat → Int32 → Int32 → Prop
  | 0, _, _ => False
  | n + 1, x1, x2 =>
    (vp_in (44 : Int32) 45 ∧ (((yn (44 : Int32).toNatClampNeg) ≤ x2 → (Q (x1 / (2 : Int32)))) ∧ (¬ (yn (44 : Int32).toNatClampNeg) ≤ x2 → (wn_X6_foesOf yn x2 (fun (r3 : Int32) => (wn_X6_bits r3 (fun (r4 : Int32) => (wl_n_X6_pairs_4 yn Q n (x1 + r4) (x2 + 1)))))))))
def wn_X6_pairs (yn : Nat → Int32) (Q : Int32 → Prop) : Prop :=
  (∃ fu4, wl_n_X6_pairs_4 yn Q fu4 (0 : Int32) (0 : Int32))
def wl_n_X6_give_175 (yn : Nat → Int32) (Q : Int32 → (Nat → Int32) → Prop) (k6 : (Nat → Int32) → Int32 → Int32 → Int32 → Prop) : Nat → (Nat → Int32) → Int32 → Int32 → Int32 → Int32 → Int32 → Int32 → Prop
  | 0, _, _, _, _, _, _, _ => False
  | n + 1, yr, x1, x2, x3, x4, x5, x6 =>
    ((¬ ((x5 >>> (x6 &&& 31)) &&& (1 : Int32)) = (1 : Int32) → (vp_in x4 14 ∧ (((x6 + (1 : Int32)) ≤ x2 → (k6 (upd yr x4.toNatClampNeg x6) (x1 ||| ((1 : Int32) <<< (x4 &&& 31))) x2 (x3 + 1))) ∧ (¬ (x6 + (1 : Int32)) ≤ x2 → (k6 (upd yr x4.toNatClampNeg x6) (x1 ||| ((1 : Int32) <<< (x4 &&& 31))) (x6 + (1 : Int32)) (x3 + 1)))))) ∧ (((x5 >>> (x6 &&& 31)) &&& (1 : Int32)) = (1 : Int32) → (wl_n_X6_give_175 yn Q k6 n yr x1 x2 x3 x4 x5 (x6 + 1))))
def wj_n_X6_give_163 (yn : Nat → Int32) (Q : Int32 → (Nat → Int32) → Prop) (k100 : (Nat → Int32) → Int32 → Int32 → Int32 → Int32 → Int32 → Int32 → Prop) (k6 : (Nat → Int32) → Int32 → Int32 → Int32 → Prop) (yr : Nat → Int32) (x1 : Int32) (x2 : Int32) (x3 : Int32) (x4 : Int32) (x5 : Int32) (x6 : Int32) (x7 : Int32) (y0 : Int32) (y1 : Int32) : Prop :=
    (k100 yr x1 x2 x3 x4 (y0 ||| y1) (x6 + 1))
def wj_n_X6_give_141 (yn : Nat → Int32) (Q : Int32 → (Nat → Int32) → Prop) (k100 : (Nat → Int32) → Int32 → Int32 → Int32 → Int32 → Int32 → Int32 → Prop) (k6 : (Nat → Int32) → Int32 → Int32 → Int32 → Prop) (yr : Nat → Int32) (x1 : Int32) (x2 : Int32) (x3 : Int32) (x4 : Int32) (x5 : Int32) (x6 : Int32) (y0 : Int32) : Prop :=
    ((y0 = 0 → (wj_n_X6_give_163 yn Q k100 k6 yr x1 x2 x3 x4 x5 x6 y0 x5 (0 : Int32))) ∧ (¬ y0 = 0 → (vp_in x6 14 ∧ (wj_n_X6_give_163 yn Q k100 k6 yr x1 x2 x3 x4 x5 x6 y0 x5 ((1 : Int32) <<< ((yr x6.toNatClampNeg) &&& 31))))))
def wj_n_X6_give_140 (yn : Nat → Int32) (Q : Int32 → (Nat → Int32) → Prop) (k100 : (Nat → Int32) → Int32 → Int32 → Int32 → Int32 → Int32 → Int32 → Prop) (k6 : (Nat → Int32) → Int32 → Int32 → Int32 → Prop) (yr : Nat → Int32) (x1 : Int32) (x2 : Int32) (x3 : Int32) (x4 : Int32) (x5 : Int32) (x6 : Int32) : Prop :=
    (wj_n_X6_give_141 yn Q k100 k6 yr x1 x2 x3 x4 x5 x6 (0 : Int32))
def wl_n_X6_give_100 (yn : Nat → Int32) (Q : Int32 → (Nat → Int32) → Prop) (k6 : (Nat → Int32) → Int32 → Int32 → Int32 → Prop) : Nat → (Nat → Int32) → Int32 → Int32 → Int32 → Int32 → Int32 → Int32 → Prop
  | 0, _, _, _, _, _, _, _ => False
  | n + 1, yr, x1, x2, x3, x4, x5, x6 =>
    (vp_in (44 : Int32) 45 ∧ (((yn (44 : Int32).toNatClampNeg) ≤ x6 → (∃ fu175, wl_n_X6_give_175 yn Q k6 fu175 yr x1 x2 x3 x4 x5 (0 : Int32))) ∧ (¬ (yn (44 : Int32).toNatClampNeg) ≤ x6 → ((¬ ((x1 >>> (x6 &&& 31)) &&& (1 : Int32)) = (1 : Int32) → (wj_n_X6_give_140 yn Q (fun (z0 : Nat → Int32) (z1 : Int32) (z2 : Int32) (z3 : Int32) (z4 : Int32) (z5 : Int32) (z6 : Int32) => wl_n_X6_give_100 yn Q k6 n z0 z1 z2 z3 z4 z5 z6) k6 yr x1 x2 x3 x4 x5 x6)) ∧ (((x1 >>> (x6 &&& 31)) &&& (1 : Int32)) = (1 : Int32) → (wn_X6_clash yn x4 x6 (fun (r13 : Int32) => ((r13 = 0 → (wj_n_X6_give_140 yn Q (fun (z0 : Nat → Int32) (z1 : Int32) (z2 : Int32) (z3 : Int32) (z4 : Int32) (z5 : Int32) (z6 : Int32) => wl_n_X6_give_100 yn Q k6 n z0 z1 z2 z3 z4 z5 z6) k6 yr x1 x2 x3 x4 x5 x6)) ∧ (¬ r13 = 0 → (wj_n_X6_give_141 yn Q (fun (z0 : Nat → Int32) (z1 : Int32) (z2 : Int32) (z3 : Int32) (z4 : Int32) (z5 : Int32) (z6 : Int32) => wl_n_X6_give_100 yn Q k6 n z0 z1 z2 z3 z4 z5 z6) k6 yr x1 x2 x3 x4 x5 x6 (1 : Int32)))))))))))
def wj_n_X6_give_79 (yn : Nat → Int32) (Q : Int32 → (Nat → Int32) → Prop) (k23 : (Nat → Int32) → Int32 → Int32 → Int32 → Int32 → Int32 → Prop) (k6 : (Nat → Int32) → Int32 → Int32 → Int32 → Prop) (yr : Nat → Int32) (x1 : Int32) (x2 : Int32) (x3 : Int32) (x4 : Int32) (x5 : Int32) (x6 : Int32) : Prop :=
    (k23 yr x1 x2 x3 x5 (x5 + 1))
def wj_n_X6_give_49 (yn : Nat → Int32) (Q : Int32 → (Nat → Int32) → Prop) (k23 : (Nat → Int32) → Int32 → Int32 → Int32 → Int32 → Int32 → Prop) (k6 : (Nat → Int32) → Int32 → Int32 → Int32 → Prop) (yr : Nat → Int32) (x1 : Int32) (x2 : Int32) (x3 : Int32) (x4 : Int32) (x5 : Int32) (y0 : Int32) : Prop :=
    ((y0 = 0 → (k23 yr x1 x2 x3 x4 (x5 + 1))) ∧ (¬ y0 = 0 → ((x4 = (-1 : Int32) → (wj_n_X6_give_79 yn Q k23 k6 yr x1 x2 x3 x4 x5 y0)) ∧ (¬ x4 = (-1 : Int32) → (vp_in x5 45 ∧ (vp_in x4 45 ∧ (((yn x4.toNatClampNeg) ≤ (yn x5.toNatClampNeg) → (k23 yr x1 x2 x3 x4 (x5 + 1))) ∧ (¬ (yn x4.toNatClampNeg) ≤ (yn x5.toNatClampNeg) → (wj_n_X6_give_79 yn Q k23 k6 yr x1 x2 x3 x4 x5 y0)))))))))
def wl_n_X6_give_23 (yn : Nat → Int32) (Q : Int32 → (Nat → Int32) → Prop) (k6 : (Nat → Int32) → Int32 → Int32 → Int32 → Prop) : Nat → (Nat → Int32) → Int32 → Int32 → Int32 → Int32 → Int32 → Prop
  | 0, _, _, _, _, _, _ => False
  | n + 1, yr, x1, x2, x3, x4, x5 =>
    (vp_in (44 : Int32) 45 ∧ (((yn (44 : Int32).toNatClampNeg) ≤ x5 → (∃ fu100, wl_n_X6_give_100 yn Q k6 fu100 yr x1 x2 x3 x4 (0 : Int32) (0 : Int32))) ∧ (¬ (yn (44 : Int32).toNatClampNeg) ≤ x5 → ((¬ ((x1 >>> (x5 &&& 31)) &&& (1 : Int32)) = 0 → (wj_n_X6_give_49 yn Q (fun (z0 : Nat → Int32) (z1 : Int32) (z2 : Int32) (z3 : Int32) (z4 : Int32) (z5 : Int32) => wl_n_X6_give_23 yn Q k6 n z0 z1 z2 z3 z4 z5) k6 yr x1 x2 x3 x4 x5 (0 : Int32))) ∧ (((x1 >>> (x5 &&& 31)) &&& (1 : Int32)) = 0 → (wj_n_X6_give_49 yn Q (fun (z0 : Nat → Int32) (z1 : Int32) (z2 : Int32) (z3 : Int32) (z4 : Int32) (z5 : Int32) => wl_n_X6_give_23 yn Q k6 n z0 z1 z2 z3 z4 z5) k6 yr x1 x2 x3 x4 x5 (1 : Int32)))))))
def wl_n_X6_give_6 (yn : Nat → Int32) (Q : Int32 → (Nat → Int32) → Prop) : Nat → (Nat → Int32) → Int32 → Int32 → Int32 → Prop
  | 0, _, _, _, _ => False
  | n + 1, yr, x1, x2, x3 =>
    (vp_in (44 : Int32) 45 ∧ (((yn (44 : Int32).toNatClampNeg) ≤ x3 → (Q x2 yr)) ∧ (¬ (yn (44 : Int32).toNatClampNeg) ≤ x3 → (∃ fu23, wl_n_X6_give_23 yn Q (fun (z0 : Nat → Int32) (z1 : Int32) (z2 : Int32) (z3 : Int32) => wl_n_X6_give_6 yn Q n z0 z1 z2 z3) fu23 yr x1 x2 x3 (-1 : Int32) (0 : Int32)))))
def wn_X6_give (yn : Nat → Int32) (yr : Nat → Int32) (Q : Int32 → (Nat → Int32) → Prop) : Prop :=
  (∃ fu6, wl_n_X6_give_6 yn Q fu6 yr (0 : Int32) (0 : Int32) (0 : Int32))
def wj_n_X6_fill_131 (yn : Nat → Int32) (Q : Int32 → (Nat → Int32) → (Nat → Int32) → Prop) (k54 : (Nat → Int32) → (Nat → Int32) → Int32 → Int32 → Int32 → Prop) (yu : Nat → Int32) (yf : Nat → Int32) (x1 : Int32) (x2 : Int32) (x3 : Int32) (x4 : Int32) (y1 : Int32) (y2 : Int32) : Prop :=
    (vp_in y1 16384 ∧ (k54 (upd yu y1.toNatClampNeg y2) yf x1 x2 (x3 + 1)))
def wj_n_X6_fill_110 (yn : Nat → Int32) (Q : Int32 → (Nat → Int32) → (Nat → Int32) → Prop) (k54 : (Nat → Int32) → (Nat → Int32) → Int32 → Int32 → Int32 → Prop) (yu : Nat → Int32) (yf : Nat → Int32) (x1 : Int32) (x2 : Int32) (x3 : Int32) (x4 : Int32) (y1 : Int32) : Prop :=
    (wj_n_X6_fill_131 yn Q k54 yu yf x1 x2 x3 x4 y1 (-1 : Int32))
def wj_n_X6_fill_73 (yn : Nat → Int32) (Q : Int32 → (Nat → Int32) → (Nat → Int32) → Prop) (k54 : (Nat → Int32) → (Nat → Int32) → Int32 → Int32 → Int32 → Prop) (yu : Nat → Int32) (yf : Nat → Int32) (x1 : Int32) (x2 : Int32) (x3 : Int32) (y0 : Int32) (y1 : Int32) : Prop :=
    (vp_in (x3 - ((1 : Int32) <<< ((y0 + y1) &&& 31))) 16384 ∧ (((yu (x3 - ((1 : Int32) <<< ((y0 + y1) &&& 31))).toNatClampNeg) = (-1 : Int32) → (wj_n_X6_fill_110 yn Q k54 yu yf x1 (y0 + y1) x3 (x3 - ((1 : Int32) <<< ((y0 + y1) &&& 31))) x3)) ∧ (¬ (yu (x3 - ((1 : Int32) <<< ((y0 + y1) &&& 31))).toNatClampNeg) = (-1 : Int32) → (vp_in (y0 + y1) 14 ∧ ((((yf (y0 + y1).toNatClampNeg) &&& (x3 - ((1 : Int32) <<< ((y0 + y1) &&& 31)))) = 0 → (vp_in (x3 - ((1 : Int32) <<< ((y0 + y1) &&& 31))) 16384 ∧ (vp_in ((28 : Int32) + (y0 + y1)) 45 ∧ (wj_n_X6_fill_131 yn Q k54 yu yf x1 (y0 + y1) x3 (x3 - ((1 : Int32) <<< ((y0 + y1) &&& 31))) x3 ((yu (x3 - ((1 : Int32) <<< ((y0 + y1) &&& 31))).toNatClampNeg) + (yn ((28 : Int32) + (y0 + y1)).toNatClampNeg)))))) ∧ (¬ ((yf (y0 + y1).toNatClampNeg) &&& (x3 - ((1 : Int32) <<< ((y0 + y1) &&& 31)))) = 0 → (wj_n_X6_fill_110 yn Q k54 yu yf x1 (y0 + y1) x3 (x3 - ((1 : Int32) <<< ((y0 + y1) &&& 31))) x3)))))))
def wl_n_X6_fill_54 (yn : Nat → Int32) (Q : Int32 → (Nat → Int32) → (Nat → Int32) → Prop) : Nat → (Nat → Int32) → (Nat → Int32) → Int32 → Int32 → Int32 → Prop
  | 0, _, _, _, _, _ => False
  | n + 1, yu, yf, x1, x2, x3 =>
    ((x1 ≤ x3 → (Q x1 yu yf)) ∧ (¬ x1 ≤ x3 → (((x3 >>> ((x2 + (1 : Int32)) &&& 31)) ≤ 0 → (wj_n_X6_fill_73 yn Q (fun (z0 : Nat → Int32) (z1 : Nat → Int32) (z2 : Int32) (z3 : Int32) (z4 : Int32) => wl_n_X6_fill_54 yn Q n z0 z1 z2 z3 z4) yu yf x1 x2 x3 x2 (0 : Int32))) ∧ (¬ (x3 >>> ((x2 + (1 : Int32)) &&& 31)) ≤ 0 → (wj_n_X6_fill_73 yn Q (fun (z0 : Nat → Int32) (z1 : Nat → Int32) (z2 : Int32) (z3 : Int32) (z4 : Int32) => wl_n_X6_fill_54 yn Q n z0 z1 z2 z3 z4) yu yf x1 x2 x3 x2 (1 : Int32))))))
def wl_n_X6_fill_12 (yn : Nat → Int32) (Q : Int32 → (Nat → Int32) → (Nat → Int32) → Prop) : Nat → (Nat → Int32) → (Nat → Int32) → Int32 → Int32 → Prop
  | 0, _, _, _, _ => False
  | n + 1, yu, yf, x1, x2 =>
    (vp_in (44 : Int32) 45 ∧ (((yn (44 : Int32).toNatClampNeg) ≤ x2 → (vp_in (0 : Int32) 16384 ∧ (∃ fu54, wl_n_X6_fill_54 yn Q fu54 (upd yu (0 : Int32).toNatClampNeg (0 : Int32)) yf x1 (0 : Int32) (1 : Int32)))) ∧ (¬ (yn (44 : Int32).toNatClampNeg) ≤ x2 → (wn_X6_foesOf yn x2 (fun (r14 : Int32) => (vp_in x2 14 ∧ (wl_n_X6_fill_12 yn Q n yu (upd yf x2.toNatClampNeg r14) x1 (x2 + 1))))))))
def wn_X6_fill (yn : Nat → Int32) (yu : Nat → Int32) (yf : Nat → Int32) (Q : Int32 → (Nat → Int32) → (Nat → Int32) → Prop) : Prop :=
  (vp_in (44 : Int32) 45 ∧ (∃ fu12, wl_n_X6_fill_12 yn Q fu12 yu yf ((1 : Int32) <<< ((yn (44 : Int32).toNatClampNeg) &&& 31)) (0 : Int32)))
def wj_n_X6_bestSet_63 (yu : Nat → Int32) (Q : Int32 → Prop) (k5 : Int32 → Int32 → Int32 → Int32 → Prop) (x1 : Int32) (x2 : Int32) (x3 : Int32) (x4 : Int32) (x5 : Int32) : Prop :=
    (k5 x1 x2 x4 (x4 + 1))
def wj_n_X6_bestSet_35 (yu : Nat → Int32) (Q : Int32 → Prop) (k5 : Int32 → Int32 → Int32 → Int32 → Prop) (x1 : Int32) (x2 : Int32) (x3 : Int32) (x4 : Int32) (y0 : Int32) : Prop :=
    ((y0 = 0 → (k5 x1 x2 x3 (x4 + 1))) ∧ (¬ y0 = 0 → ((x3 = (-1 : Int32) → (wj_n_X6_bestSet_63 yu Q k5 x1 x2 x3 x4 y0)) ∧ (¬ x3 = (-1 : Int32) → (vp_in x4 16384 ∧ (vp_in x3 16384 ∧ (((yu x4.toNatClampNeg) ≤ (yu x3.toNatClampNeg) → (k5 x1 x2 x3 (x4 + 1))) ∧ (¬ (yu x4.toNatClampNeg) ≤ (yu x3.toNatClampNeg) → (wj_n_X6_bestSet_63 yu Q k5 x1 x2 x3 x4 y0)))))))))
def wj_n_X6_bestSet_34 (yu : Nat → Int32) (Q : Int32 → Prop) (k5 : Int32 → Int32 → Int32 → Int32 → Prop) (x1 : Int32) (x2 : Int32) (x3 : Int32) (x4 : Int32) : Prop :=
    (wj_n_X6_bestSet_35 yu Q k5 x1 x2 x3 x4 (0 : Int32))
def wl_n_X6_bestSet_5 (yu : Nat → Int32) (Q : Int32 → Prop) : Nat → Int32 → Int32 → Int32 → Int32 → Prop
  | 0, _, _, _, _ => False
  | n + 1, x1, x2, x3, x4 =>
    ((x1 ≤ x4 → (Q x3)) ∧ (¬ x1 ≤ x4 → (vp_in x4 16384 ∧ (((yu x4.toNatClampNeg) = (-1 : Int32) → (wj_n_X6_bestSet_34 yu Q (fun (z0 : Int32) (z1 : Int32) (z2 : Int32) (z3 : Int32) => wl_n_X6_bestSet_5 yu Q n z0 z1 z2 z3) x1 x2 x3 x4)) ∧ (¬ (yu x4.toNatClampNeg) = (-1 : Int32) → ((¬ (x4 &&& x2) = x2 → (wj_n_X6_bestSet_34 yu Q (fun (z0 : Int32) (z1 : Int32) (z2 : Int32) (z3 : Int32) => wl_n_X6_bestSet_5 yu Q n z0 z1 z2 z3) x1 x2 x3 x4)) ∧ ((x4 &&& x2) = x2 → (wj_n_X6_bestSet_35 yu Q (fun (z0 : Int32) (z1 : Int32) (z2 : Int32) (z3 : Int32) => wl_n_X6_bestSet_5 yu Q n z0 z1 z2 z3) x1 x2 x3 x4 (1 : Int32)))))))))
def wn_X6_bestSet (yu : Nat → Int32) (a1 : Int32) (a2 : Int32) (Q : Int32 → Prop) : Prop :=
  (∃ fu5, wl_n_X6_bestSet_5 yu Q fu5 a1 a2 (-1 : Int32) (0 : Int32))
def wn_X6_bestFame (yn : Nat → Int32) (yu : Nat → Int32) (yf : Nat → Int32) (Q : Int32 → (Nat → Int32) → (Nat → Int32) → Prop) : Prop :=
  (wn_X6_fill yn yu yf (fun (r1 : Int32) (yu_2 : Nat → Int32) (yf_3 : Nat → Int32) => (wn_X6_bestSet yu_2 r1 (0 : Int32) (fun (r4 : Int32) => (vp_in r4 16384 ∧ (Q (yu_2 r4.toNatClampNeg) yu_2 yf_3))))))
def wj_n_X6_most_32 (yn : Nat → Int32) (Q : Int32 → (Nat → Int32) → (Nat → Int32) → Prop) (k9 : (Nat → Int32) → (Nat → Int32) → Int32 → Int32 → Int32 → Prop) (yu : Nat → Int32) (yf : Nat → Int32) (x1 : Int32) (x2 : Int32) (x3 : Int32) (y0 : Int32) : Prop :=
    ((y0 ≤ x2 → (k9 yu yf x1 x2 (x3 + 1))) ∧ (¬ y0 ≤ x2 → (k9 yu yf x1 y0 (x3 + 1))))
def wl_n_X6_most_9 (yn : Nat → Int32) (Q : Int32 → (Nat → Int32) → (Nat → Int32) → Prop) : Nat → (Nat → Int32) → (Nat → Int32) → Int32 → Int32 → Int32 → Prop
  | 0, _, _, _, _, _ => False
  | n + 1, yu, yf, x1, x2, x3 =>
    ((x1 ≤ x3 → (Q x2 yu yf)) ∧ (¬ x1 ≤ x3 → (vp_in x3 16384 ∧ ((¬ (yu x3.toNatClampNeg) = (-1 : Int32) → (wn_X6_bits x3 (fun (r7 : Int32) => (wj_n_X6_most_32 yn Q (fun (z0 : Nat → Int32) (z1 : Nat → Int32) (z2 : Int32) (z3 : Int32) (z4 : Int32) => wl_n_X6_most_9 yn Q n z0 z1 z2 z3 z4) yu yf x1 x2 x3 r7)))) ∧ ((yu x3.toNatClampNeg) = (-1 : Int32) → (wj_n_X6_most_32 yn Q (fun (z0 : Nat → Int32) (z1 : Nat → Int32) (z2 : Int32) (z3 : Int32) (z4 : Int32) => wl_n_X6_most_9 yn Q n z0 z1 z2 z3 z4) yu yf x1 x2 x3 (0 : Int32)))))))
def wn_X6_most (yn : Nat → Int32) (yu : Nat → Int32) (yf : Nat → Int32) (Q : Int32 → (Nat → Int32) → (Nat → Int32) → Prop) : Prop :=
  (wn_X6_fill yn yu yf (fun (r1 : Int32) (yu_2 : Nat → Int32) (yf_3 : Nat → Int32) => (∃ fu9, wl_n_X6_most_9 yn Q fu9 yu_2 yf_3 r1 (0 : Int32) (0 : Int32))))
def wl_n_X6_fameOfBooked_4 (yn : Nat → Int32) (Q : Int32 → Prop) : Nat → Int32 → Int32 → Prop
  | 0, _, _ => False
  | n + 1, x1, x2 =>
    (vp_in (44 : Int32) 45 ∧ (((yn (44 : Int32).toNatClampNeg) ≤ x2 → (Q x1)) ∧ (¬ (yn (44 : Int32).toNatClampNeg) ≤ x2 → (vp_in (42 : Int32) 45 ∧ ((¬ (((yn (42 : Int32).toNatClampNeg) >>> (x2 &&& 31)) &&& (1 : Int32)) = (1 : Int32) → (wl_n_X6_fameOfBooked_4 yn Q n (x1 + (0 : Int32)) (x2 + 1))) ∧ ((((yn (42 : Int32).toNatClampNeg) >>> (x2 &&& 31)) &&& (1 : Int32)) = (1 : Int32) → (vp_in ((28 : Int32) + x2) 45 ∧ (wl_n_X6_fameOfBooked_4 yn Q n (x1 + (yn ((28 : Int32) + x2).toNatClampNeg)) (x2 + 1)))))))))
def wn_X6_fameOfBooked (yn : Nat → Int32) (Q : Int32 → Prop) : Prop :=
  (∃ fu4, wl_n_X6_fameOfBooked_4 yn Q fu4 (0 : Int32) (0 : Int32))
def wl_n_X6_save_51 (yn : Nat → Int32) (Q : (Nat → Int32) → Int32 → Prop) : Nat → (Nat → Int32) → Int32 → Int32 → Prop
  | 0, _, _, _ => False
  | n + 1, yb, zs, x1 =>
    (((45 : Int32) ≤ x1 → (Q yb (zs + (1 : Int32)))) ∧ (¬ (45 : Int32) ≤ x1 → (vp_in x1 45 ∧ (vp_in (((45 : Int32) * zs) + x1) 270 ∧ (wl_n_X6_save_51 yn Q n (upd yb (((45 : Int32) * zs) + x1).toNatClampNeg (yn x1.toNatClampNeg)) zs (x1 + 1))))))
def wl_n_X6_save_11 (yn : Nat → Int32) (Q : (Nat → Int32) → Int32 → Prop) : Nat → (Nat → Int32) → Int32 → Int32 → Prop
  | 0, _, _, _ => False
  | n + 1, yb, zs, x1 =>
    (((225 : Int32) ≤ x1 → (∃ fu51, wl_n_X6_save_51 yn Q fu51 yb (zs - (1 : Int32)) (0 : Int32))) ∧ (¬ (225 : Int32) ≤ x1 → (vp_in ((45 : Int32) + x1) 270 ∧ (vp_in x1 270 ∧ (wl_n_X6_save_11 yn Q n (upd yb x1.toNatClampNeg (yb ((45 : Int32) + x1).toNatClampNeg)) zs (x1 + 1))))))
def wn_X6_save (yn : Nat → Int32) (yb : Nat → Int32) (zs : Int32) (Q : (Nat → Int32) → Int32 → Prop) : Prop :=
  ((¬ zs = (6 : Int32) → (∃ fu51, wl_n_X6_save_51 yn Q fu51 yb zs (0 : Int32))) ∧ (zs = (6 : Int32) → (∃ fu11, wl_n_X6_save_11 yn Q fu11 yb zs (0 : Int32))))
def wn_X6_goAdd (uu : Nat → Int32) (a1 : Int32) (a2 : Int32) (a3 : Int32) (Q : Int32 → (Nat → Int32) → Prop) : Prop :=
  (vp_in (44 : Int32) 45 ∧ (vp_in (uu (44 : Int32).toNatClampNeg) 45 ∧ (vp_in ((14 : Int32) + (uu (44 : Int32).toNatClampNeg)) 45 ∧ (vp_in ((28 : Int32) + (uu (44 : Int32).toNatClampNeg)) 45 ∧ (vp_in (44 : Int32) 45 ∧ (vp_in (44 : Int32) 45 ∧ (Q (uu (44 : Int32).toNatClampNeg) (upd (upd (upd (upd uu (uu (44 : Int32).toNatClampNeg).toNatClampNeg a1) ((14 : Int32) + (uu (44 : Int32).toNatClampNeg)).toNatClampNeg a2) ((28 : Int32) + (uu (44 : Int32).toNatClampNeg)).toNatClampNeg a3) (44 : Int32).toNatClampNeg (((upd (upd (upd uu (uu (44 : Int32).toNatClampNeg).toNatClampNeg a1) ((14 : Int32) + (uu (44 : Int32).toNatClampNeg)).toNatClampNeg a2) ((28 : Int32) + (uu (44 : Int32).toNatClampNeg)).toNatClampNeg a3) (44 : Int32).toNatClampNeg) + (1 : Int32))))))))))
def wj_n_X6_add_54 (Q : Int32 → (Nat → Int32) → (Nat → Int32) → Int32 → Int32 → Prop) (yn : Nat → Int32) (yb : Nat → Int32) (za : Int32) (zs : Int32) (x1 : Int32) (x2 : Int32) (x3 : Int32) (x4 : Int32) (y1 : Int32) : Prop :=
    (wn_X6_refused za y1 (fun (r6 : Int32) (za_7 : Int32) => ((r6 = 0 → (wn_X6_save yn yb zs (fun (yb_9 : Nat → Int32) (zs_10 : Int32) => (wn_X6_goAdd yn x1 x2 x3 (fun (r11 : Int32) (uu_12 : Nat → Int32) => (Q r11 uu_12 yb_9 za_7 zs_10)))))) ∧ (¬ r6 = 0 → (Q (0 : Int32) yn yb za_7 zs)))))
def wj_n_X6_add_25 (Q : Int32 → (Nat → Int32) → (Nat → Int32) → Int32 → Int32 → Prop) (yn : Nat → Int32) (yb : Nat → Int32) (za : Int32) (zs : Int32) (x1 : Int32) (x2 : Int32) (x3 : Int32) (y0 : Int32) : Prop :=
    ((¬ y0 = 0 → (vp_in (44 : Int32) 45 ∧ ((¬ (yn (44 : Int32).toNatClampNeg) = (14 : Int32) → (wj_n_X6_add_54 Q yn yb za zs x1 x2 x3 y0 (0 : Int32))) ∧ ((yn (44 : Int32).toNatClampNeg) = (14 : Int32) → (wj_n_X6_add_54 Q yn yb za zs x1 x2 x3 y0 (2 : Int32)))))) ∧ (y0 = 0 → (wj_n_X6_add_54 Q yn yb za zs x1 x2 x3 y0 (1 : Int32))))
def wj_n_X6_add_24 (Q : Int32 → (Nat → Int32) → (Nat → Int32) → Int32 → Int32 → Prop) (yn : Nat → Int32) (yb : Nat → Int32) (za : Int32) (zs : Int32) (x1 : Int32) (x2 : Int32) (x3 : Int32) : Prop :=
    (wj_n_X6_add_25 Q yn yb za zs x1 x2 x3 (0 : Int32))
def wn_X6_add (yn : Nat → Int32) (yb : Nat → Int32) (za : Int32) (zs : Int32) (a1 : Int32) (a2 : Int32) (a3 : Int32) (Q : Int32 → (Nat → Int32) → (Nat → Int32) → Int32 → Int32 → Prop) : Prop :=
  (wn_X6_isTime a1 a2 (fun (r1 : Int32) => ((r1 = 0 → (wj_n_X6_add_24 Q yn yb za zs a1 a2 a3)) ∧ (¬ r1 = 0 → (wn_X6_in a3.toInt64 (1 : Int64) (50 : Int64) (fun (r13 : Int32) => ((r13 = 0 → (wj_n_X6_add_24 Q yn yb za zs a1 a2 a3)) ∧ (¬ r13 = 0 → (wj_n_X6_add_25 Q yn yb za zs a1 a2 a3 (1 : Int32))))))))))
def wj_n_X6_noOne_14 (yn : Nat → Int32) (Q : Int32 → Int32 → Prop) (za : Int32) (x1 : Int32) (y1 : Int32) : Prop :=
    (wn_X6_refused za y1 (fun (r3 : Int32) (za_4 : Int32) => (Q r3 za_4)))
def wn_X6_noOne (yn : Nat → Int32) (za : Int32) (a1 : Int32) (Q : Int32 → Int32 → Prop) : Prop :=
  (wn_X6_isThere yn a1 (fun (r1 : Int32) => ((r1 = 0 → (wj_n_X6_noOne_14 yn Q za a1 (1 : Int32))) ∧ (¬ r1 = 0 → (wj_n_X6_noOne_14 yn Q za a1 (0 : Int32))))))
def wl_n_X6_strike_78 (Q : Int32 → (Nat → Int32) → (Nat → Int32) → Int32 → Int32 → Prop) : Nat → (Nat → Int32) → (Nat → Int32) → Int32 → Int32 → Int32 → Int32 → Int32 → Int32 → Int32 → Prop
  | 0, _, _, _, _, _, _, _, _, _ => False
  | n + 1, yn, yb, za, zs, x1, x2, x3, x4, x5 =>
    (vp_in (44 : Int32) 45 ∧ (((yn (44 : Int32).toNatClampNeg) ≤ x5 → (Q x2 yn yb za zs)) ∧ (¬ (yn (44 : Int32).toNatClampNeg) ≤ x5 → (vp_in (x5 + (1 : Int32)) 45 ∧ (vp_in x5 45 ∧ (vp_in (((14 : Int32) + x5) + (1 : Int32)) 45 ∧ (vp_in ((14 : Int32) + x5) 45 ∧ (vp_in (((28 : Int32) + x5) + (1 : Int32)) 45 ∧ (vp_in ((28 : Int32) + x5) 45 ∧ (wl_n_X6_strike_78 Q n (upd (upd (upd yn x5.toNatClampNeg (yn (x5 + (1 : Int32)).toNatClampNeg)) ((14 : Int32) + x5).toNatClampNeg ((upd yn x5.toNatClampNeg (yn (x5 + (1 : Int32)).toNatClampNeg)) (((14 : Int32) + x5) + (1 : Int32)).toNatClampNeg)) ((28 : Int32) + x5).toNatClampNeg ((upd (upd yn x5.toNatClampNeg (yn (x5 + (1 : Int32)).toNatClampNeg)) ((14 : Int32) + x5).toNatClampNeg ((upd yn x5.toNatClampNeg (yn (x5 + (1 : Int32)).toNatClampNeg)) (((14 : Int32) + x5) + (1 : Int32)).toNatClampNeg)) (((28 : Int32) + x5) + (1 : Int32)).toNatClampNeg)) yb za zs x1 x2 x3 x4 (x5 + 1)))))))))))
def wn_X6_strike (yn : Nat → Int32) (yb : Nat → Int32) (za : Int32) (zs : Int32) (a1 : Int32) (Q : Int32 → (Nat → Int32) → (Nat → Int32) → Int32 → Int32 → Prop) : Prop :=
  (wn_X6_noOne yn za a1 (fun (r1 : Int32) (za_2 : Int32) => ((r1 = 0 → (wn_X6_save yn yb zs (fun (yb_4 : Nat → Int32) (zs_5 : Int32) => (vp_in ((28 : Int32) + a1) 45 ∧ (vp_in (42 : Int32) 45 ∧ (∀ v8 : Int32, v8 = ((yn (42 : Int32).toNatClampNeg) &&& (((1 : Int32) <<< (a1 &&& 31)) - (1 : Int32))) → (vp_in (42 : Int32) 45 ∧ (∀ v10 : Int32, v10 = ((yn (42 : Int32).toNatClampNeg) >>> ((a1 + (1 : Int32)) &&& 31)) → (vp_in (42 : Int32) 45 ∧ (vp_in (44 : Int32) 45 ∧ (vp_in (44 : Int32) 45 ∧ (∃ fu78, wl_n_X6_strike_78 Q fu78 (upd (upd yn (42 : Int32).toNatClampNeg (v8 ||| (v10 <<< (a1 &&& 31)))) (44 : Int32).toNatClampNeg (((upd yn (42 : Int32).toNatClampNeg (v8 ||| (v10 <<< (a1 &&& 31)))) (44 : Int32).toNatClampNeg) - (1 : Int32))) yb_4 za_2 zs_5 a1 (yn ((28 : Int32) + a1).toNatClampNeg) v8 v10 a1)))))))))))) ∧ (¬ r1 = 0 → (Q (0 : Int32) yn yb za_2 zs)))))
def wj_n_X6_move_93 (Q : Int32 → (Nat → Int32) → (Nat → Int32) → (Nat → Int32) → Int32 → Int32 → Prop) (yn : Nat → Int32) (yt : Nat → Int32) (yb : Nat → Int32) (za : Int32) (zs : Int32) (x1 : Int32) (x2 : Int32) (x3 : Int32) (x4 : Int32) (x5 : Int32) (y1 : Int32) : Prop :=
    (wn_X6_refused za y1 (fun (r10 : Int32) (za_11 : Int32) => ((r10 = 0 → (wn_X6_save yn yb zs (fun (yb_13 : Nat → Int32) (zs_14 : Int32) => (vp_in ((14 : Int32) + x1) 45 ∧ (vp_in x1 45 ∧ (∀ v17 : Int32, v17 = ((yn ((14 : Int32) + x1).toNatClampNeg) - (yn x1.toNatClampNeg)) → (vp_in x1 45 ∧ (vp_in ((14 : Int32) + x1) 45 ∧ (Q ((x3 - x2) - v17) (upd (upd yn x1.toNatClampNeg x2) ((14 : Int32) + x1).toNatClampNeg x3) yt yb_13 za_11 zs_14))))))))) ∧ (¬ r10 = 0 → (Q (0 : Int32) yn yt yb za_11 zs)))))
def wj_n_X6_move_52 (Q : Int32 → (Nat → Int32) → (Nat → Int32) → (Nat → Int32) → Int32 → Int32 → Prop) (yn : Nat → Int32) (yt : Nat → Int32) (yb : Nat → Int32) (za : Int32) (zs : Int32) (x1 : Int32) (x2 : Int32) (x3 : Int32) (x4 : Int32) (x5 : Int32) : Prop :=
    ((¬ x4 = 0 → ((¬ x5 = 0 → (vp_in (42 : Int32) 45 ∧ (wn_X6_isChoice yt (yt (42 : Int32).toNatClampNeg) (fun (r8 : Int32) => ((¬ r8 = 0 → (wj_n_X6_move_93 Q yn yt yb za zs x1 x2 x3 x4 x5 (0 : Int32))) ∧ (r8 = 0 → (wj_n_X6_move_93 Q yn yt yb za zs x1 x2 x3 x4 x5 (3 : Int32)))))))) ∧ (x5 = 0 → (wj_n_X6_move_93 Q yn yt yb za zs x1 x2 x3 x4 x5 (2 : Int32))))) ∧ (x4 = 0 → (wj_n_X6_move_93 Q yn yt yb za zs x1 x2 x3 x4 x5 (1 : Int32))))
def wn_X6_move (yn : Nat → Int32) (yt : Nat → Int32) (yb : Nat → Int32) (za : Int32) (zs : Int32) (a1 : Int32) (a2 : Int32) (a3 : Int32) (Q : Int32 → (Nat → Int32) → (Nat → Int32) → (Nat → Int32) → Int32 → Int32 → Prop) : Prop :=
  (wn_X6_isThere yn a1 (fun (r1 : Int32) => (wn_X6_isTime a2 a3 (fun (r2 : Int32) => (wn_X6_copy yn yt (fun (vv_3 : Nat → Int32) => ((r1 = 0 → (wj_n_X6_move_52 Q yn vv_3 yb za zs a1 a2 a3 r1 r2)) ∧ (¬ r1 = 0 → ((r2 = 0 → (wj_n_X6_move_52 Q yn vv_3 yb za zs a1 a2 a3 r1 r2)) ∧ (¬ r2 = 0 → (vp_in a1 45 ∧ (vp_in ((14 : Int32) + a1) 45 ∧ (wj_n_X6_move_52 Q yn (upd (upd vv_3 a1.toNatClampNeg a2) ((14 : Int32) + a1).toNatClampNeg a3) yb za zs a1 a2 a3 r1 r2)))))))))))))
def wj_n_X6_changeFame_30 (Q : Int32 → (Nat → Int32) → (Nat → Int32) → Int32 → Int32 → Prop) (yn : Nat → Int32) (yb : Nat → Int32) (za : Int32) (zs : Int32) (x1 : Int32) (x2 : Int32) (y1 : Int32) : Prop :=
    (wn_X6_refused za y1 (fun (r5 : Int32) (za_6 : Int32) => ((r5 = 0 → (wn_X6_save yn yb zs (fun (yb_8 : Nat → Int32) (zs_9 : Int32) => (vp_in ((28 : Int32) + x1) 45 ∧ (vp_in ((28 : Int32) + x1) 45 ∧ (Q (yn ((28 : Int32) + x1).toNatClampNeg) (upd yn ((28 : Int32) + x1).toNatClampNeg x2) yb_8 za_6 zs_9)))))) ∧ (¬ r5 = 0 → (Q (0 : Int32) yn yb za_6 zs)))))
def wn_X6_changeFame (yn : Nat → Int32) (yb : Nat → Int32) (za : Int32) (zs : Int32) (a1 : Int32) (a2 : Int32) (Q : Int32 → (Nat → Int32) → (Nat → Int32) → Int32 → Int32 → Prop) : Prop :=
  (wn_X6_isThere yn a1 (fun (r1 : Int32) => ((¬ r1 = 0 → (wn_X6_in a2.toInt64 (1 : Int64) (50 : Int64) (fun (r3 : Int32) => ((¬ r3 = 0 → (wj_n_X6_changeFame_30 Q yn yb za zs a1 a2 (0 : Int32))) ∧ (r3 = 0 → (wj_n_X6_changeFame_30 Q yn yb za zs a1 a2 (2 : Int32))))))) ∧ (r1 = 0 → (wj_n_X6_changeFame_30 Q yn yb za zs a1 a2 (1 : Int32))))))
def wj_n_X6_changePause_68 (Q : Int32 → (Nat → Int32) → (Nat → Int32) → (Nat → Int32) → Int32 → Int32 → Prop) (yn : Nat → Int32) (yt : Nat → Int32) (yb : Nat → Int32) (za : Int32) (zs : Int32) (x1 : Int32) (x2 : Int32) (y1 : Int32) : Prop :=
    (wn_X6_refused za y1 (fun (r9 : Int32) (za_10 : Int32) => ((r9 = 0 → (wn_X6_save yn yb zs (fun (yb_12 : Nat → Int32) (zs_13 : Int32) => (vp_in (43 : Int32) 45 ∧ (vp_in (43 : Int32) 45 ∧ (Q (yn (43 : Int32).toNatClampNeg) (upd yn (43 : Int32).toNatClampNeg x1) yt yb_12 za_10 zs_13)))))) ∧ (¬ r9 = 0 → (Q (0 : Int32) yn yt yb za_10 zs)))))
def wj_n_X6_changePause_36 (Q : Int32 → (Nat → Int32) → (Nat → Int32) → (Nat → Int32) → Int32 → Int32 → Prop) (yn : Nat → Int32) (yt : Nat → Int32) (yb : Nat → Int32) (za : Int32) (zs : Int32) (x1 : Int32) (x2 : Int32) (y1 : Int32) (y2 : Int32) : Prop :=
    (vp_in y1 45 ∧ ((¬ x2 = 0 → (vp_in (42 : Int32) 45 ∧ (wn_X6_isChoice (upd yt y1.toNatClampNeg y2) ((upd yt y1.toNatClampNeg y2) (42 : Int32).toNatClampNeg) (fun (r7 : Int32) => ((¬ r7 = 0 → (wj_n_X6_changePause_68 Q yn (upd yt y1.toNatClampNeg y2) yb za zs x1 x2 (0 : Int32))) ∧ (r7 = 0 → (wj_n_X6_changePause_68 Q yn (upd yt y1.toNatClampNeg y2) yb za zs x1 x2 (2 : Int32)))))))) ∧ (x2 = 0 → (wj_n_X6_changePause_68 Q yn (upd yt y1.toNatClampNeg y2) yb za zs x1 x2 (1 : Int32)))))
def wn_X6_changePause (yn : Nat → Int32) (yt : Nat → Int32) (yb : Nat → Int32) (za : Int32) (zs : Int32) (a1 : Int32) (Q : Int32 → (Nat → Int32) → (Nat → Int32) → (Nat → Int32) → Int32 → Int32 → Prop) : Prop :=
  (wn_X6_in a1.toInt64 (0 : Int64) (8 : Int64) (fun (r1 : Int32) => (wn_X6_copy yn yt (fun (vv_2 : Nat → Int32) => ((r1 = 0 → (wj_n_X6_changePause_36 Q yn vv_2 yb za zs a1 r1 (43 : Int32) (0 : Int32))) ∧ (¬ r1 = 0 → (wj_n_X6_changePause_36 Q yn vv_2 yb za zs a1 r1 (43 : Int32) a1)))))))
def wn_X6_isIn (yn : Nat → Int32) (a1 : Int32) (Q : Int32 → Prop) : Prop :=
  (vp_in (42 : Int32) 45 ∧ ((¬ (((yn (42 : Int32).toNatClampNeg) >>> (a1 &&& 31)) &&& (1 : Int32)) = (1 : Int32) → (Q (0 : Int32))) ∧ ((((yn (42 : Int32).toNatClampNeg) >>> (a1 &&& 31)) &&& (1 : Int32)) = (1 : Int32) → (Q (1 : Int32)))))
def wj_n_X6_book_61 (Q : Int32 → (Nat → Int32) → (Nat → Int32) → Int32 → Int32 → Prop) (yn : Nat → Int32) (yb : Nat → Int32) (za : Int32) (zs : Int32) (x1 : Int32) (x2 : Int32) (x3 : Int32) (y1 : Int32) : Prop :=
    (wn_X6_refused za y1 (fun (r5 : Int32) (za_6 : Int32) => ((r5 = 0 → (wn_X6_save yn yb zs (fun (yb_8 : Nat → Int32) (zs_9 : Int32) => (vp_in (42 : Int32) 45 ∧ (vp_in (42 : Int32) 45 ∧ (wn_X6_fameOfBooked (upd yn (42 : Int32).toNatClampNeg ((yn (42 : Int32).toNatClampNeg) ||| ((1 : Int32) <<< (x1 &&& 31)))) (fun (r12 : Int32) => (Q r12 (upd yn (42 : Int32).toNatClampNeg ((yn (42 : Int32).toNatClampNeg) ||| ((1 : Int32) <<< (x1 &&& 31)))) yb_8 za_6 zs_9)))))))) ∧ (¬ r5 = 0 → (Q (0 : Int32) yn yb za_6 zs)))))
def wj_n_X6_book_42 (Q : Int32 → (Nat → Int32) → (Nat → Int32) → Int32 → Int32 → Prop) (yn : Nat → Int32) (yb : Nat → Int32) (za : Int32) (zs : Int32) (x1 : Int32) (x2 : Int32) (y0 : Int32) : Prop :=
    ((¬ x2 = 0 → ((¬ y0 = 0 → (wj_n_X6_book_61 Q yn yb za zs x1 x2 y0 (0 : Int32))) ∧ (y0 = 0 → (wj_n_X6_book_61 Q yn yb za zs x1 x2 y0 (2 : Int32))))) ∧ (x2 = 0 → (wj_n_X6_book_61 Q yn yb za zs x1 x2 y0 (1 : Int32))))
def wj_n_X6_book_41 (Q : Int32 → (Nat → Int32) → (Nat → Int32) → Int32 → Int32 → Prop) (yn : Nat → Int32) (yb : Nat → Int32) (za : Int32) (zs : Int32) (x1 : Int32) (x2 : Int32) : Prop :=
    (wj_n_X6_book_42 Q yn yb za zs x1 x2 (0 : Int32))
def wn_X6_book (yn : Nat → Int32) (yb : Nat → Int32) (za : Int32) (zs : Int32) (a1 : Int32) (Q : Int32 → (Nat → Int32) → (Nat → Int32) → Int32 → Int32 → Prop) : Prop :=
  (wn_X6_isThere yn a1 (fun (r1 : Int32) => ((r1 = 0 → (wj_n_X6_book_41 Q yn yb za zs a1 r1)) ∧ (¬ r1 = 0 → (wn_X6_isIn yn a1 (fun (r13 : Int32) => ((¬ r13 = 0 → (wj_n_X6_book_41 Q yn yb za zs a1 r1)) ∧ (r13 = 0 → (wn_X6_foesOf yn a1 (fun (r15 : Int32) => (vp_in (42 : Int32) 45 ∧ ((¬ (r15 &&& (yn (42 : Int32).toNatClampNeg)) = 0 → (wj_n_X6_book_41 Q yn yb za zs a1 r1)) ∧ ((r15 &&& (yn (42 : Int32).toNatClampNeg)) = 0 → (wj_n_X6_book_42 Q yn yb za zs a1 r1 (1 : Int32)))))))))))))))
def wj_n_X6_cancel_28 (Q : Int32 → (Nat → Int32) → (Nat → Int32) → Int32 → Int32 → Prop) (yn : Nat → Int32) (yb : Nat → Int32) (za : Int32) (zs : Int32) (x1 : Int32) (x2 : Int32) (y1 : Int32) : Prop :=
    (wn_X6_refused za y1 (fun (r5 : Int32) (za_6 : Int32) => ((r5 = 0 → (wn_X6_save yn yb zs (fun (yb_8 : Nat → Int32) (zs_9 : Int32) => (vp_in (42 : Int32) 45 ∧ (vp_in (42 : Int32) 45 ∧ (wn_X6_fameOfBooked (upd yn (42 : Int32).toNatClampNeg ((yn (42 : Int32).toNatClampNeg) - ((1 : Int32) <<< (x1 &&& 31)))) (fun (r12 : Int32) => (Q r12 (upd yn (42 : Int32).toNatClampNeg ((yn (42 : Int32).toNatClampNeg) - ((1 : Int32) <<< (x1 &&& 31)))) yb_8 za_6 zs_9)))))))) ∧ (¬ r5 = 0 → (Q (0 : Int32) yn yb za_6 zs)))))
def wn_X6_cancel (yn : Nat → Int32) (yb : Nat → Int32) (za : Int32) (zs : Int32) (a1 : Int32) (Q : Int32 → (Nat → Int32) → (Nat → Int32) → Int32 → Int32 → Prop) : Prop :=
  (wn_X6_isThere yn a1 (fun (r1 : Int32) => ((¬ r1 = 0 → (wn_X6_isIn yn a1 (fun (r3 : Int32) => ((¬ r3 = 0 → (wj_n_X6_cancel_28 Q yn yb za zs a1 r1 (0 : Int32))) ∧ (r3 = 0 → (wj_n_X6_cancel_28 Q yn yb za zs a1 r1 (2 : Int32))))))) ∧ (r1 = 0 → (wj_n_X6_cancel_28 Q yn yb za zs a1 r1 (1 : Int32))))))
def wn_X6_bookBest (yn : Nat → Int32) (yu : Nat → Int32) (yf : Nat → Int32) (yb : Nat → Int32) (za : Int32) (zs : Int32) (Q : Int32 → (Nat → Int32) → (Nat → Int32) → (Nat → Int32) → (Nat → Int32) → Int32 → Int32 → Prop) : Prop :=
  (wn_X6_save yn yb zs (fun (yb_1 : Nat → Int32) (zs_2 : Int32) => (wn_X6_fill yn yu yf (fun (r3 : Int32) (yu_4 : Nat → Int32) (yf_5 : Nat → Int32) => (wn_X6_bestSet yu_4 r3 (0 : Int32) (fun (r6 : Int32) => (vp_in (42 : Int32) 45 ∧ (vp_in (42 : Int32) 45 ∧ (wn_X6_bits ((upd yn (42 : Int32).toNatClampNeg r6) (42 : Int32).toNatClampNeg) (fun (r9 : Int32) => (Q r9 (upd yn (42 : Int32).toNatClampNeg r6) yu_4 yf_5 yb_1 (0 : Int32) zs_2)))))))))))
def wj_n_X6_append_33 (Q : Int32 → (Nat → Int32) → Int32 → Int32 → Prop) (yx : Nat → Int32) (za : Int32) (zl : Int32) (x1 : Int32) (y1 : Int32) : Prop :=
    (wn_X6_refused za y1 (fun (r4 : Int32) (za_5 : Int32) => ((r4 = 0 → (vp_in zl 60 ∧ (Q (zl + (1 : Int32)) (upd yx zl.toNatClampNeg x1) za_5 (zl + (1 : Int32))))) ∧ (¬ r4 = 0 → (Q (0 : Int32) yx za_5 zl)))))
def wn_X6_append (yx : Nat → Int32) (za : Int32) (zl : Int32) (a1 : Int32) (Q : Int32 → (Nat → Int32) → Int32 → Int32 → Prop) : Prop :=
  (wn_X6_in a1.toInt64 (33 : Int64) (126 : Int64) (fun (r1 : Int32) => ((¬ r1 = 0 → ((¬ zl = (60 : Int32) → (wj_n_X6_append_33 Q yx za zl a1 (0 : Int32))) ∧ (zl = (60 : Int32) → (wj_n_X6_append_33 Q yx za zl a1 (2 : Int32))))) ∧ (r1 = 0 → (wj_n_X6_append_33 Q yx za zl a1 (1 : Int32))))))
def wn_X6_clearBuffer (za : Int32) (zl : Int32) (Q : Int32 → Int32 → Int32 → Prop) : Prop :=
  (Q zl (0 : Int32) (0 : Int32))
def wn_X6_here (yx : Nat → Int32) (zl : Int32) (zt : Int32) (Q : Int32 → Prop) : Prop :=
  ((zl ≤ zt → (Q (-1 : Int32))) ∧ (¬ zl ≤ zt → (vp_in zt 60 ∧ (Q (yx zt.toNatClampNeg)))))
def wj_n_X6_take_37 (Q : Int32 → Int32 → Prop) (zt : Int32) (zg : Int32) (x1 : Int32) (y1 : Int32) (y2 : Int32) : Prop :=
    (Q (y1 + y2) zg)
def wj_n_X6_take_17 (Q : Int32 → Int32 → Prop) (zt : Int32) (zg : Int32) (x1 : Int32) (y1 : Int32) : Prop :=
    ((y1 = 0 → (wj_n_X6_take_37 Q zt y1 x1 zt (0 : Int32))) ∧ (¬ y1 = 0 → (wj_n_X6_take_37 Q zt y1 x1 zt (1 : Int32))))
def wj_n_X6_take_16 (Q : Int32 → Int32 → Prop) (zt : Int32) (zg : Int32) (x1 : Int32) : Prop :=
    (wj_n_X6_take_17 Q zt zg x1 (0 : Int32))
def wn_X6_take (zt : Int32) (zg : Int32) (a1 : Int32) (Q : Int32 → Int32 → Prop) : Prop :=
  ((zg = 0 → (wj_n_X6_take_16 Q zt zg a1)) ∧ (¬ zg = 0 → ((a1 = 0 → (wj_n_X6_take_16 Q zt zg a1)) ∧ (¬ a1 = 0 → (wj_n_X6_take_17 Q zt zg a1 (1 : Int32))))))
def wj_n_X6_number_132 (yx : Nat → Int32) (zl : Int32) (Q : Int32 → Int32 → Int32 → Prop) (k55 : Int32 → Int32 → Int32 → Int32 → Int32 → Int32 → Prop) (zt : Int32) (zg : Int32) (x1 : Int32) (x2 : Int32) (x3 : Int32) (x4 : Int32) (x5 : Int32) (y1 : Int32) (y2 : Int32) : Prop :=
    (k55 (y1 + y2) zg x1 x2 x3 x4)
def wj_n_X6_number_116 (yx : Nat → Int32) (zl : Int32) (Q : Int32 → Int32 → Int32 → Prop) (k55 : Int32 → Int32 → Int32 → Int32 → Int32 → Int32 → Prop) (zt : Int32) (zg : Int32) (x1 : Int32) (x2 : Int32) (x3 : Int32) (x4 : Int32) (x5 : Int32) (y0 : Int32) : Prop :=
    ((x4 = 0 → (wj_n_X6_number_132 yx zl Q k55 zt zg x1 x2 y0 x4 x5 zt (0 : Int32))) ∧ (¬ x4 = 0 → (wj_n_X6_number_132 yx zl Q k55 zt zg x1 x2 y0 x4 x5 zt (1 : Int32))))
def wj_n_X6_number_98 (yx : Nat → Int32) (zl : Int32) (Q : Int32 → Int32 → Int32 → Prop) (k55 : Int32 → Int32 → Int32 → Int32 → Int32 → Int32 → Prop) (zt : Int32) (zg : Int32) (x1 : Int32) (x2 : Int32) (x3 : Int32) (x4 : Int32) (x5 : Int32) (y0 : Int32) : Prop :=
    ((y0 = 0 → (wj_n_X6_number_116 yx zl Q k55 zt zg x1 x2 x3 y0 x5 x3)) ∧ (¬ y0 = 0 → (wj_n_X6_number_116 yx zl Q k55 zt zg x1 x2 x3 y0 x5 (((10 : Int32) * x3) + x5))))
def wj_n_X6_number_97 (yx : Nat → Int32) (zl : Int32) (Q : Int32 → Int32 → Int32 → Prop) (k55 : Int32 → Int32 → Int32 → Int32 → Int32 → Int32 → Prop) (zt : Int32) (zg : Int32) (x1 : Int32) (x2 : Int32) (x3 : Int32) (x4 : Int32) (x5 : Int32) : Prop :=
    (wj_n_X6_number_98 yx zl Q k55 zt zg x1 x2 x3 x4 x5 (0 : Int32))
def wl_n_X6_number_55 (yx : Nat → Int32) (zl : Int32) (Q : Int32 → Int32 → Int32 → Prop) : Nat → Int32 → Int32 → Int32 → Int32 → Int32 → Int32 → Prop
  | 0, _, _, _, _, _, _ => False
  | n + 1, zt, zg, x1, x2, x3, x4 =>
    ((x4 = 0 → (Q x3 zt zg)) ∧ (¬ x4 = 0 → (wn_X6_here yx zl zt (fun (r7 : Int32) => (wn_X6_in ((r7 - (48 : Int32)).toInt64) (0 : Int64) (9 : Int64) (fun (r8 : Int32) => ((r8 = 0 → (wj_n_X6_number_97 yx zl Q (fun (z0 : Int32) (z1 : Int32) (z2 : Int32) (z3 : Int32) (z4 : Int32) (z5 : Int32) => wl_n_X6_number_55 yx zl Q n z0 z1 z2 z3 z4 z5) zt zg x1 x2 x3 x4 (r7 - (48 : Int32)))) ∧ (¬ r8 = 0 → ((x2 < (((10 : Int32) * x3) + (r7 - (48 : Int32))) → (wj_n_X6_number_97 yx zl Q (fun (z0 : Int32) (z1 : Int32) (z2 : Int32) (z3 : Int32) (z4 : Int32) (z5 : Int32) => wl_n_X6_number_55 yx zl Q n z0 z1 z2 z3 z4 z5) zt zg x1 x2 x3 x4 (r7 - (48 : Int32)))) ∧ (¬ x2 < (((10 : Int32) * x3) + (r7 - (48 : Int32))) → (wj_n_X6_number_98 yx zl Q (fun (z0 : Int32) (z1 : Int32) (z2 : Int32) (z3 : Int32) (z4 : Int32) (z5 : Int32) => wl_n_X6_number_55 yx zl Q n z0 z1 z2 z3 z4 z5) zt zg x1 x2 x3 x4 (r7 - (48 : Int32)) (1 : Int32))))))))))))
def wj_n_X6_number_34 (yx : Nat → Int32) (zl : Int32) (Q : Int32 → Int32 → Int32 → Prop) (zt : Int32) (zg : Int32) (x1 : Int32) (x2 : Int32) (x3 : Int32) (y1 : Int32) : Prop :=
    (wn_X6_take zt zg y1 (fun (zt_3 : Int32) (zg_4 : Int32) => ((zg_4 = 0 → (∃ fu55, wl_n_X6_number_55 yx zl Q fu55 zt_3 zg_4 x1 x2 x3 (0 : Int32))) ∧ (¬ zg_4 = 0 → ((x3 ≤ 0 → (∃ fu55, wl_n_X6_number_55 yx zl Q fu55 zt_3 zg_4 x1 x2 x3 (0 : Int32))) ∧ (¬ x3 ≤ 0 → (∃ fu55, wl_n_X6_number_55 yx zl Q fu55 zt_3 zg_4 x1 x2 x3 (1 : Int32))))))))
def wj_n_X6_number_33 (yx : Nat → Int32) (zl : Int32) (Q : Int32 → Int32 → Int32 → Prop) (zt : Int32) (zg : Int32) (x1 : Int32) (x2 : Int32) (x3 : Int32) : Prop :=
    (wj_n_X6_number_34 yx zl Q zt zg x1 x2 x3 (0 : Int32))
def wn_X6_number (yx : Nat → Int32) (zl : Int32) (zt : Int32) (zg : Int32) (a1 : Int32) (a2 : Int32) (Q : Int32 → Int32 → Int32 → Prop) : Prop :=
  (wn_X6_here yx zl zt (fun (r1 : Int32) => ((zg = 0 → (wj_n_X6_number_33 yx zl Q zt zg a1 a2 (r1 - (48 : Int32)))) ∧ (¬ zg = 0 → (wn_X6_in ((r1 - (48 : Int32)).toInt64) a1.toInt64 (9 : Int64) (fun (r14 : Int32) => ((r14 = 0 → (wj_n_X6_number_33 yx zl Q zt zg a1 a2 (r1 - (48 : Int32)))) ∧ (¬ r14 = 0 → (wj_n_X6_number_34 yx zl Q zt zg a1 a2 (r1 - (48 : Int32)) (1 : Int32))))))))))
def wj_n_X6_readPart_85 (yx : Nat → Int32) (zl : Int32) (Q : (Nat → Int32) → Int32 → Int32 → Int32 → Int32 → Prop) (yt : Nat → Int32) (zt : Int32) (zg : Int32) (zr : Int32) (zm : Int32) (x1 : Int32) (x2 : Int32) (x3 : Int32) (y1 : Int32) : Prop :=
    (vp_in (44 : Int32) 45 ∧ (((14 : Int32) ≤ (yt (44 : Int32).toNatClampNeg) → (Q yt zt zg y1 (zm + (1 : Int32)))) ∧ (¬ (14 : Int32) ≤ (yt (44 : Int32).toNatClampNeg) → (wn_X6_goAdd yt x1 x2 x3 (fun (r22 : Int32) (uu_23 : Nat → Int32) => (Q uu_23 zt zg y1 (zm + (1 : Int32))))))))
def wj_n_X6_readPart_84 (yx : Nat → Int32) (zl : Int32) (Q : (Nat → Int32) → Int32 → Int32 → Int32 → Int32 → Prop) (yt : Nat → Int32) (zt : Int32) (zg : Int32) (zr : Int32) (zm : Int32) (x1 : Int32) (x2 : Int32) (x3 : Int32) : Prop :=
    (wj_n_X6_readPart_85 yx zl Q yt zt zg zr zm x1 x2 x3 (0 : Int32))
def wj_n_X6_readPart_49 (yx : Nat → Int32) (zl : Int32) (Q : (Nat → Int32) → Int32 → Int32 → Int32 → Int32 → Prop) (yt : Nat → Int32) (zt : Int32) (zg : Int32) (zr : Int32) (zm : Int32) (x1 : Int32) (x2 : Int32) (y1 : Int32) : Prop :=
    (wn_X6_take zt zg y1 (fun (zt_13 : Int32) (zg_14 : Int32) => (wn_X6_number yx zl zt_13 zg_14 (1 : Int32) (50 : Int32) (fun (r15 : Int32) (zt_16 : Int32) (zg_17 : Int32) => ((zg_17 = 0 → (Q yt zt_16 zg_17 zr zm)) ∧ (¬ zg_17 = 0 → ((zr = 0 → (wj_n_X6_readPart_84 yx zl Q yt zt_16 zg_17 zr zm x1 x2 r15)) ∧ (¬ zr = 0 → ((x2 ≤ x1 → (wj_n_X6_readPart_84 yx zl Q yt zt_16 zg_17 zr zm x1 x2 r15)) ∧ (¬ x2 ≤ x1 → (wj_n_X6_readPart_85 yx zl Q yt zt_16 zg_17 zr zm x1 x2 r15 (1 : Int32))))))))))))
def wj_n_X6_readPart_23 (yx : Nat → Int32) (zl : Int32) (Q : (Nat → Int32) → Int32 → Int32 → Int32 → Int32 → Prop) (yt : Nat → Int32) (zt : Int32) (zg : Int32) (zr : Int32) (zm : Int32) (x1 : Int32) (y1 : Int32) : Prop :=
    (wn_X6_take zt zg y1 (fun (zt_6 : Int32) (zg_7 : Int32) => (wn_X6_number yx zl zt_6 zg_7 (1 : Int32) (96 : Int32) (fun (r8 : Int32) (zt_9 : Int32) (zg_10 : Int32) => (wn_X6_here yx zl zt_9 (fun (r11 : Int32) => ((¬ r11 = (42 : Int32) → (wj_n_X6_readPart_49 yx zl Q yt zt_9 zg_10 zr zm x1 r8 (0 : Int32))) ∧ (r11 = (42 : Int32) → (wj_n_X6_readPart_49 yx zl Q yt zt_9 zg_10 zr zm x1 r8 (1 : Int32))))))))))
def wn_X6_readPart (yt : Nat → Int32) (yx : Nat → Int32) (zl : Int32) (zt : Int32) (zg : Int32) (zr : Int32) (zm : Int32) (Q : (Nat → Int32) → Int32 → Int32 → Int32 → Int32 → Prop) : Prop :=
  (wn_X6_number yx zl zt zg (0 : Int32) (95 : Int32) (fun (r1 : Int32) (zt_2 : Int32) (zg_3 : Int32) => (wn_X6_here yx zl zt_2 (fun (r4 : Int32) => ((¬ r4 = (45 : Int32) → (wj_n_X6_readPart_23 yx zl Q yt zt_2 zg_3 zr zm r1 (0 : Int32))) ∧ (r4 = (45 : Int32) → (wj_n_X6_readPart_23 yx zl Q yt zt_2 zg_3 zr zm r1 (1 : Int32))))))))
def wj_n_X6_readAll_68 (yn : Nat → Int32) (yx : Nat → Int32) (zl : Int32) (Q : (Nat → Int32) → Int32 → Int32 → Int32 → Int32 → Prop) (k35 : (Nat → Int32) → Int32 → Int32 → Int32 → Int32 → Prop) (yt : Nat → Int32) (zt : Int32) (zg : Int32) (zr : Int32) (zm : Int32) (y1 : Int32) : Prop :=
    (wn_X6_take zt zg y1 (fun (zt_11 : Int32) (zg_12 : Int32) => ((zg_12 = 0 → (k35 yt zt_11 zg_12 zr zm)) ∧ (¬ zg_12 = 0 → (wn_X6_readPart yt yx zl zt_11 zg_12 zr zm (fun (yt_14 : Nat → Int32) (zt_15 : Int32) (zg_16 : Int32) (zr_17 : Int32) (zm_18 : Int32) => (k35 yt_14 zt_15 zg_16 zr_17 zm_18)))))))
def wl_n_X6_readAll_35 (yn : Nat → Int32) (yx : Nat → Int32) (zl : Int32) (Q : (Nat → Int32) → Int32 → Int32 → Int32 → Int32 → Prop) : Nat → (Nat → Int32) → Int32 → Int32 → Int32 → Int32 → Prop
  | 0, _, _, _, _, _ => False
  | n + 1, yt, zt, zg, zr, zm =>
    ((zg = 0 → (Q yt zt zg zr zm)) ∧ (¬ zg = 0 → ((zl ≤ zt → (Q yt zt zg zr zm)) ∧ (¬ zl ≤ zt → (wn_X6_here yx zl zt (fun (r9 : Int32) => ((¬ r9 = (59 : Int32) → (wj_n_X6_readAll_68 yn yx zl Q (fun (z0 : Nat → Int32) (z1 : Int32) (z2 : Int32) (z3 : Int32) (z4 : Int32) => wl_n_X6_readAll_35 yn yx zl Q n z0 z1 z2 z3 z4) yt zt zg zr zm (0 : Int32))) ∧ (r9 = (59 : Int32) → (wj_n_X6_readAll_68 yn yx zl Q (fun (z0 : Nat → Int32) (z1 : Int32) (z2 : Int32) (z3 : Int32) (z4 : Int32) => wl_n_X6_readAll_35 yn yx zl Q n z0 z1 z2 z3 z4) yt zt zg zr zm (1 : Int32))))))))))
def wn_X6_readAll (yn : Nat → Int32) (yt : Nat → Int32) (yx : Nat → Int32) (zl : Int32) (zt : Int32) (zg : Int32) (zr : Int32) (zm : Int32) (Q : (Nat → Int32) → Int32 → Int32 → Int32 → Int32 → Prop) : Prop :=
  (wn_X6_copy yn yt (fun (vv_1 : Nat → Int32) => (wn_X6_readPart vv_1 yx zl (0 : Int32) (1 : Int32) (1 : Int32) (0 : Int32) (fun (yt_2 : Nat → Int32) (zt_3 : Int32) (zg_4 : Int32) (zr_5 : Int32) (zm_6 : Int32) => (∃ fu35, wl_n_X6_readAll_35 yn yx zl Q fu35 yt_2 zt_3 zg_4 zr_5 zm_6)))))
def wn_X6_firstError (yn : Nat → Int32) (yt : Nat → Int32) (yx : Nat → Int32) (za : Int32) (zl : Int32) (zt : Int32) (zg : Int32) (zr : Int32) (zm : Int32) (Q : Int32 → (Nat → Int32) → Int32 → Int32 → Int32 → Int32 → Int32 → Prop) : Prop :=
  (wn_X6_readAll yn yt yx zl zt zg zr zm (fun (yt_1 : Nat → Int32) (zt_2 : Int32) (zg_3 : Int32) (zr_4 : Int32) (zm_5 : Int32) => ((zg_3 = 0 → (Q zt_2 yt_1 (0 : Int32) zt_2 zg_3 zr_4 zm_5)) ∧ (¬ zg_3 = 0 → (Q zl yt_1 (0 : Int32) zt_2 zg_3 zr_4 zm_5)))))
def wj_n_X6_read_45 (yx : Nat → Int32) (Q : Int32 → (Nat → Int32) → (Nat → Int32) → (Nat → Int32) → Int32 → Int32 → Int32 → Int32 → Int32 → Int32 → Int32 → Prop) (yn : Nat → Int32) (yt : Nat → Int32) (yb : Nat → Int32) (za : Int32) (zs : Int32) (zl : Int32) (zt : Int32) (zg : Int32) (zr : Int32) (zm : Int32) (y1 : Int32) : Prop :=
    (wn_X6_refused za y1 (fun (r7 : Int32) (za_8 : Int32) => ((r7 = 0 → (wn_X6_save yn yb zs (fun (yb_10 : Nat → Int32) (zs_11 : Int32) => (wn_X6_copy yt yn (fun (vv_12 : Nat → Int32) => (vp_in (44 : Int32) 45 ∧ (Q (vv_12 (44 : Int32).toNatClampNeg) vv_12 yt yb_10 za_8 zs_11 (0 : Int32) zt zg zr zm))))))) ∧ (¬ r7 = 0 → (Q (0 : Int32) yn yt yb za_8 zs zl zt zg zr zm)))))
def wj_n_X6_read_19 (yx : Nat → Int32) (Q : Int32 → (Nat → Int32) → (Nat → Int32) → (Nat → Int32) → Int32 → Int32 → Int32 → Int32 → Int32 → Int32 → Int32 → Prop) (yn : Nat → Int32) (yt : Nat → Int32) (yb : Nat → Int32) (za : Int32) (zs : Int32) (zl : Int32) (zt : Int32) (zg : Int32) (zr : Int32) (zm : Int32) : Prop :=
    (wj_n_X6_read_45 yx Q yn yt yb za zs zl zt zg zr zm (1 : Int32))
def wn_X6_read (yn : Nat → Int32) (yt : Nat → Int32) (yb : Nat → Int32) (yx : Nat → Int32) (za : Int32) (zs : Int32) (zl : Int32) (zt : Int32) (zg : Int32) (zr : Int32) (zm : Int32) (Q : Int32 → (Nat → Int32) → (Nat → Int32) → (Nat → Int32) → Int32 → Int32 → Int32 → Int32 → Int32 → Int32 → Int32 → Prop) : Prop :=
  (wn_X6_readAll yn yt yx zl zt zg zr zm (fun (yt_1 : Nat → Int32) (zt_2 : Int32) (zg_3 : Int32) (zr_4 : Int32) (zm_5 : Int32) => ((zg_3 = 0 → (wj_n_X6_read_19 yx Q yn yt_1 yb za zs zl zt_2 zg_3 zr_4 zm_5)) ∧ (¬ zg_3 = 0 → ((¬ zr_4 = 0 → (vp_in (44 : Int32) 45 ∧ ((((yn (44 : Int32).toNatClampNeg) + zm_5) ≤ (14 : Int32) → (wj_n_X6_read_45 yx Q yn yt_1 yb za zs zl zt_2 zg_3 zr_4 zm_5 (0 : Int32))) ∧ (¬ ((yn (44 : Int32).toNatClampNeg) + zm_5) ≤ (14 : Int32) → (wj_n_X6_read_45 yx Q yn yt_1 yb za zs zl zt_2 zg_3 zr_4 zm_5 (2 : Int32)))))) ∧ (zr_4 = 0 → (wj_n_X6_read_19 yx Q yn yt_1 yb za zs zl zt_2 zg_3 zr_4 zm_5)))))))
def wn_X6_isSlot (a0 : Int32) (Q : Int32 → Prop) : Prop :=
  (wn_X6_in a0.toInt64 (0 : Int64) (1 : Int64) (fun (r1 : Int32) => (Q r1)))
def wl_n_X6_keep_22 (yn : Nat → Int32) (Q : (Nat → Int32) → (Nat → Int32) → Int32 → Prop) : Nat → (Nat → Int32) → (Nat → Int32) → Int32 → Int32 → Int32 → Prop
  | 0, _, _, _, _, _ => False
  | n + 1, yk, yi, za, x1, x2 =>
    (((45 : Int32) ≤ x2 → (vp_in x1 2 ∧ (Q yk (upd yi x1.toNatClampNeg (vp_nar .boolean (1 : Int32))) za))) ∧ (¬ (45 : Int32) ≤ x2 → (vp_in x2 45 ∧ (vp_in (((45 : Int32) * x1) + x2) 90 ∧ (wl_n_X6_keep_22 yn Q n (upd yk (((45 : Int32) * x1) + x2).toNatClampNeg (yn x2.toNatClampNeg)) yi za x1 (x2 + 1))))))
def wj_n_X6_keep_13 (yn : Nat → Int32) (Q : (Nat → Int32) → (Nat → Int32) → Int32 → Prop) (yk : Nat → Int32) (yi : Nat → Int32) (za : Int32) (x1 : Int32) (y1 : Int32) : Prop :=
    (wn_X6_refused za y1 (fun (r3 : Int32) (za_4 : Int32) => ((r3 = 0 → (∃ fu22, wl_n_X6_keep_22 yn Q fu22 yk yi za_4 x1 (0 : Int32))) ∧ (¬ r3 = 0 → (Q yk yi za_4)))))
def wn_X6_keep (yn : Nat → Int32) (yk : Nat → Int32) (yi : Nat → Int32) (za : Int32) (a1 : Int32) (Q : (Nat → Int32) → (Nat → Int32) → Int32 → Prop) : Prop :=
  (wn_X6_isSlot a1 (fun (r1 : Int32) => ((r1 = 0 → (wj_n_X6_keep_13 yn Q yk yi za a1 (1 : Int32))) ∧ (¬ r1 = 0 → (wj_n_X6_keep_13 yn Q yk yi za a1 (0 : Int32))))))
def wl_n_X6_goBack_39 (yk : Nat → Int32) (yi : Nat → Int32) (Q : (Nat → Int32) → (Nat → Int32) → Int32 → Int32 → Prop) : Nat → (Nat → Int32) → (Nat → Int32) → Int32 → Int32 → Int32 → Int32 → Prop
  | 0, _, _, _, _, _, _ => False
  | n + 1, yn, yb, za, zs, x1, x2 =>
    (((45 : Int32) ≤ x2 → (Q yn yb za zs)) ∧ (¬ (45 : Int32) ≤ x2 → (vp_in (((45 : Int32) * x1) + x2) 90 ∧ (vp_in x2 45 ∧ (wl_n_X6_goBack_39 yk yi Q n (upd yn x2.toNatClampNeg (yk (((45 : Int32) * x1) + x2).toNatClampNeg)) yb za zs x1 (x2 + 1))))))
def wj_n_X6_goBack_26 (yk : Nat → Int32) (yi : Nat → Int32) (Q : (Nat → Int32) → (Nat → Int32) → Int32 → Int32 → Prop) (yn : Nat → Int32) (yb : Nat → Int32) (za : Int32) (zs : Int32) (x1 : Int32) (y1 : Int32) : Prop :=
    (wn_X6_refused za y1 (fun (r5 : Int32) (za_6 : Int32) => ((r5 = 0 → (wn_X6_save yn yb zs (fun (yb_8 : Nat → Int32) (zs_9 : Int32) => (∃ fu39, wl_n_X6_goBack_39 yk yi Q fu39 yn yb_8 za_6 zs_9 x1 (0 : Int32))))) ∧ (¬ r5 = 0 → (Q yn yb za_6 zs)))))
def wn_X6_goBack (yn : Nat → Int32) (yb : Nat → Int32) (yk : Nat → Int32) (yi : Nat → Int32) (za : Int32) (zs : Int32) (a1 : Int32) (Q : (Nat → Int32) → (Nat → Int32) → Int32 → Int32 → Prop) : Prop :=
  (wn_X6_isSlot a1 (fun (r1 : Int32) => ((¬ r1 = 0 → (vp_in a1 2 ∧ ((¬ (yi a1.toNatClampNeg) = 0 → (wj_n_X6_goBack_26 yk yi Q yn yb za zs a1 (0 : Int32))) ∧ ((yi a1.toNatClampNeg) = 0 → (wj_n_X6_goBack_26 yk yi Q yn yb za zs a1 (2 : Int32)))))) ∧ (r1 = 0 → (wj_n_X6_goBack_26 yk yi Q yn yb za zs a1 (1 : Int32))))))
def wl_n_X6_undo_32 (yb : Nat → Int32) (Q : (Nat → Int32) → Int32 → Int32 → Prop) : Nat → (Nat → Int32) → Int32 → Int32 → Int32 → Prop
  | 0, _, _, _, _ => False
  | n + 1, yn, za, zs, x1 =>
    (((45 : Int32) ≤ x1 → (Q yn za zs)) ∧ (¬ (45 : Int32) ≤ x1 → (vp_in (((45 : Int32) * zs) + x1) 270 ∧ (vp_in x1 45 ∧ (wl_n_X6_undo_32 yb Q n (upd yn x1.toNatClampNeg (yb (((45 : Int32) * zs) + x1).toNatClampNeg)) za zs (x1 + 1))))))
def wj_n_X6_undo_13 (yb : Nat → Int32) (Q : (Nat → Int32) → Int32 → Int32 → Prop) (yn : Nat → Int32) (za : Int32) (zs : Int32) (y1 : Int32) : Prop :=
    (wn_X6_refused za y1 (fun (r2 : Int32) (za_3 : Int32) => ((r2 = 0 → (∃ fu32, wl_n_X6_undo_32 yb Q fu32 yn za_3 (zs - (1 : Int32)) (0 : Int32))) ∧ (¬ r2 = 0 → (Q yn za_3 zs)))))
def wn_X6_undo (yn : Nat → Int32) (yb : Nat → Int32) (za : Int32) (zs : Int32) (Q : (Nat → Int32) → Int32 → Int32 → Prop) : Prop :=
  ((¬ zs = 0 → (wj_n_X6_undo_13 yb Q yn za zs (0 : Int32))) ∧ (zs = 0 → (wj_n_X6_undo_13 yb Q yn za zs (1 : Int32))))
def wn_X6_savedStates (za : Int32) (zs : Int32) (Q : Int32 → Int32 → Prop) : Prop :=
  (Q zs (0 : Int32))
def wn_X6_tell (yn : Nat → Int32) (za : Int32) (a1 : Int32) (Q : Int32 → Int32 → Prop) : Prop :=
  (vp_in a1 45 ∧ (Q (yn a1.toNatClampNeg) (0 : Int32)))
def wn_X6_rehearsals (yn : Nat → Int32) (za : Int32) (Q : Int32 → Int32 → Prop) : Prop :=
  (wn_X6_tell yn za (44 : Int32) (fun (r1 : Int32) (za_2 : Int32) => (Q r1 za_2)))
def wn_X6_beginOf (yn : Nat → Int32) (za : Int32) (a1 : Int32) (Q : Int32 → Int32 → Prop) : Prop :=
  (wn_X6_noOne yn za a1 (fun (r1 : Int32) (za_2 : Int32) => ((r1 = 0 → (vp_in a1 45 ∧ (Q (yn a1.toNatClampNeg) za_2))) ∧ (¬ r1 = 0 → (Q (0 : Int32) za_2)))))
def wn_X6_endOf (yn : Nat → Int32) (za : Int32) (a1 : Int32) (Q : Int32 → Int32 → Prop) : Prop :=
  (wn_X6_noOne yn za a1 (fun (r1 : Int32) (za_2 : Int32) => ((r1 = 0 → (vp_in ((14 : Int32) + a1) 45 ∧ (Q (yn ((14 : Int32) + a1).toNatClampNeg) za_2))) ∧ (¬ r1 = 0 → (Q (0 : Int32) za_2)))))
def wn_X6_fameOf (yn : Nat → Int32) (za : Int32) (a1 : Int32) (Q : Int32 → Int32 → Prop) : Prop :=
  (wn_X6_noOne yn za a1 (fun (r1 : Int32) (za_2 : Int32) => ((r1 = 0 → (vp_in ((28 : Int32) + a1) 45 ∧ (Q (yn ((28 : Int32) + a1).toNatClampNeg) za_2))) ∧ (¬ r1 = 0 → (Q (0 : Int32) za_2)))))
def wn_X6_rate (yn : Nat → Int32) (a1 : Int32) (Q : UInt32 → Prop) : Prop :=
  (vp_in ((28 : Int32) + a1) 45 ∧ (vp_in ((14 : Int32) + a1) 45 ∧ (vp_in a1 45 ∧ (vf_n32 (FP.fdiv (FP.i2f (yn ((28 : Int32) + a1).toNatClampNeg)) (FP.i2f ((yn ((14 : Int32) + a1).toNatClampNeg) - (yn a1.toNatClampNeg)))) ∧ (Q (FP.fdiv (FP.i2f (yn ((28 : Int32) + a1).toNatClampNeg)) (FP.i2f ((yn ((14 : Int32) + a1).toNatClampNeg) - (yn a1.toNatClampNeg)))))))))
def wn_X6_famePerQuarter (yn : Nat → Int32) (za : Int32) (a1 : Int32) (Q : UInt32 → Int32 → Prop) : Prop :=
  (wn_X6_noOne yn za a1 (fun (r1 : Int32) (za_2 : Int32) => ((r1 = 0 → (wn_X6_rate yn a1 (fun (r4 : UInt32) => (Q r4 za_2)))) ∧ (¬ r1 = 0 → (Q FP.fconst0 za_2)))))
def wn_X6_isBooked (yn : Nat → Int32) (za : Int32) (a1 : Int32) (Q : Int32 → Int32 → Prop) : Prop :=
  (wn_X6_noOne yn za a1 (fun (r1 : Int32) (za_2 : Int32) => ((¬ r1 = 0 → (Q (0 : Int32) za_2)) ∧ (r1 = 0 → (wn_X6_isIn yn a1 (fun (r4 : Int32) => ((r4 = 0 → (Q (0 : Int32) za_2)) ∧ (¬ r4 = 0 → (Q (1 : Int32) za_2)))))))))
def wn_X6_pause (yn : Nat → Int32) (za : Int32) (Q : Int32 → Int32 → Prop) : Prop :=
  (wn_X6_tell yn za (43 : Int32) (fun (r1 : Int32) (za_2 : Int32) => (Q r1 za_2)))
def wn_X6_booked (yn : Nat → Int32) (za : Int32) (Q : Int32 → Int32 → Prop) : Prop :=
  (vp_in (42 : Int32) 45 ∧ (wn_X6_bits (yn (42 : Int32).toNatClampNeg) (fun (r2 : Int32) => (Q r2 (0 : Int32)))))
def wn_X6_bookedFame (yn : Nat → Int32) (za : Int32) (Q : Int32 → Int32 → Prop) : Prop :=
  (wn_X6_fameOfBooked yn (fun (r1 : Int32) => (Q r1 (0 : Int32))))
def wj_n_X6_areInConflict_22 (yn : Nat → Int32) (Q : Int32 → Int32 → Prop) (za : Int32) (x1 : Int32) (x2 : Int32) (y1 : Int32) : Prop :=
    (wn_X6_refused za y1 (fun (r3 : Int32) (za_4 : Int32) => ((¬ r3 = 0 → (Q (0 : Int32) za_4)) ∧ (r3 = 0 → (wn_X6_clash yn x1 x2 (fun (r6 : Int32) => ((r6 = 0 → (Q (0 : Int32) za_4)) ∧ (¬ r6 = 0 → (Q (1 : Int32) za_4)))))))))
def wj_n_X6_areInConflict_21 (yn : Nat → Int32) (Q : Int32 → Int32 → Prop) (za : Int32) (x1 : Int32) (x2 : Int32) : Prop :=
    (wj_n_X6_areInConflict_22 yn Q za x1 x2 (1 : Int32))
def wn_X6_areInConflict (yn : Nat → Int32) (za : Int32) (a1 : Int32) (a2 : Int32) (Q : Int32 → Int32 → Prop) : Prop :=
  (wn_X6_isThere yn a1 (fun (r1 : Int32) => ((r1 = 0 → (wj_n_X6_areInConflict_21 yn Q za a1 a2)) ∧ (¬ r1 = 0 → (wn_X6_isThere yn a2 (fun (r8 : Int32) => ((r8 = 0 → (wj_n_X6_areInConflict_21 yn Q za a1 a2)) ∧ (¬ r8 = 0 → (wj_n_X6_areInConflict_22 yn Q za a1 a2 (0 : Int32))))))))))
def wn_X6_conflictsOf (yn : Nat → Int32) (za : Int32) (a1 : Int32) (Q : Int32 → Int32 → Prop) : Prop :=
  (wn_X6_noOne yn za a1 (fun (r1 : Int32) (za_2 : Int32) => ((r1 = 0 → (wn_X6_foesOf yn a1 (fun (r4 : Int32) => (wn_X6_bits r4 (fun (r5 : Int32) => (Q r5 za_2)))))) ∧ (¬ r1 = 0 → (Q (0 : Int32) za_2)))))
def wn_X6_conflictsByPairs (yn : Nat → Int32) (za : Int32) (Q : Int32 → Int32 → Prop) : Prop :=
  (wn_X6_pairs yn (fun (r1 : Int32) => (Q r1 (0 : Int32))))
def wn_X6_conflictsBySweep (yn : Nat → Int32) (za : Int32) (Q : Int32 → Int32 → Prop) : Prop :=
  (wn_X6_pairs yn (fun (r1 : Int32) => (Q r1 (0 : Int32))))
def wn_X6_roomsBySweep (yn : Nat → Int32) (yr : Nat → Int32) (za : Int32) (Q : Int32 → (Nat → Int32) → Int32 → Prop) : Prop :=
  (wn_X6_give yn yr (fun (r1 : Int32) (yr_2 : Nat → Int32) => (Q r1 yr_2 (0 : Int32))))
def wn_X6_roomsByGiving (yn : Nat → Int32) (yr : Nat → Int32) (za : Int32) (Q : Int32 → (Nat → Int32) → Int32 → Prop) : Prop :=
  (wn_X6_give yn yr (fun (r1 : Int32) (yr_2 : Nat → Int32) => (Q r1 yr_2 (0 : Int32))))
def wn_X6_roomOf (yn : Nat → Int32) (yr : Nat → Int32) (za : Int32) (a1 : Int32) (Q : Int32 → (Nat → Int32) → Int32 → Prop) : Prop :=
  (wn_X6_noOne yn za a1 (fun (r1 : Int32) (za_2 : Int32) => ((r1 = 0 → (wn_X6_give yn yr (fun (r4 : Int32) (yr_5 : Nat → Int32) => (vp_in a1 14 ∧ (Q (yr_5 a1.toNatClampNeg) yr_5 za_2))))) ∧ (¬ r1 = 0 → (Q (0 : Int32) yr za_2)))))
def wn_X6_bestByTrying (yn : Nat → Int32) (yu : Nat → Int32) (yf : Nat → Int32) (za : Int32) (Q : Int32 → (Nat → Int32) → (Nat → Int32) → Int32 → Prop) : Prop :=
  (wn_X6_bestFame yn yu yf (fun (r1 : Int32) (yu_2 : Nat → Int32) (yf_3 : Nat → Int32) => (Q r1 yu_2 yf_3 (0 : Int32))))
def wn_X6_bestByTable (yn : Nat → Int32) (yu : Nat → Int32) (yf : Nat → Int32) (za : Int32) (Q : Int32 → (Nat → Int32) → (Nat → Int32) → Int32 → Prop) : Prop :=
  (wn_X6_bestFame yn yu yf (fun (r1 : Int32) (yu_2 : Nat → Int32) (yf_3 : Nat → Int32) => (Q r1 yu_2 yf_3 (0 : Int32))))
def wn_X6_bestChoice (yn : Nat → Int32) (yu : Nat → Int32) (yf : Nat → Int32) (za : Int32) (Q : Int32 → (Nat → Int32) → (Nat → Int32) → Int32 → Prop) : Prop :=
  (wn_X6_fill yn yu yf (fun (r1 : Int32) (yu_2 : Nat → Int32) (yf_3 : Nat → Int32) => (wn_X6_bestSet yu_2 r1 (0 : Int32) (fun (r4 : Int32) => (Q r4 yu_2 yf_3 (0 : Int32))))))
def wn_X6_mostRehearsals (yn : Nat → Int32) (yu : Nat → Int32) (yf : Nat → Int32) (za : Int32) (Q : Int32 → (Nat → Int32) → (Nat → Int32) → Int32 → Prop) : Prop :=
  (wn_X6_most yn yu yf (fun (r1 : Int32) (yu_2 : Nat → Int32) (yf_3 : Nat → Int32) => (Q r1 yu_2 yf_3 (0 : Int32))))
def wn_X6_bestWith (yn : Nat → Int32) (yu : Nat → Int32) (yf : Nat → Int32) (za : Int32) (a1 : Int32) (Q : Int32 → (Nat → Int32) → (Nat → Int32) → Int32 → Prop) : Prop :=
  (wn_X6_noOne yn za a1 (fun (r1 : Int32) (za_2 : Int32) => ((r1 = 0 → (wn_X6_fill yn yu yf (fun (r4 : Int32) (yu_5 : Nat → Int32) (yf_6 : Nat → Int32) => (wn_X6_bestSet yu_5 r4 ((1 : Int32) <<< (a1 &&& 31)) (fun (r7 : Int32) => (vp_in r7 16384 ∧ (Q (yu_5 r7.toNatClampNeg) yu_5 yf_6 za_2))))))) ∧ (¬ r1 = 0 → (Q (0 : Int32) yu yf za_2)))))
def wl_n_X6_share_4 (yn : Nat → Int32) (Q : UInt64 → Prop) : Nat → Int32 → Int32 → Prop
  | 0, _, _ => False
  | n + 1, x1, x2 =>
    (vp_in (44 : Int32) 45 ∧ (((yn (44 : Int32).toNatClampNeg) ≤ x2 → (vf_n64 (FP.ddiv (FP.i2d x1) (4636455816377925632 : UInt64)) ∧ (Q (FP.ddiv (FP.i2d x1) (4636455816377925632 : UInt64))))) ∧ (¬ (yn (44 : Int32).toNatClampNeg) ≤ x2 → (wn_X6_isIn yn x2 (fun (r4 : Int32) => ((r4 = 0 → (wl_n_X6_share_4 yn Q n (x1 + (0 : Int32)) (x2 + 1))) ∧ (¬ r4 = 0 → (vp_in ((14 : Int32) + x2) 45 ∧ (vp_in x2 45 ∧ (∀ v8 : Int32, v8 = (x1 + ((yn ((14 : Int32) + x2).toNatClampNeg) - (yn x2.toNatClampNeg))) → (wl_n_X6_share_4 yn Q n v8 (x2 + 1))))))))))))
def wn_X6_share (yn : Nat → Int32) (Q : UInt64 → Prop) : Prop :=
  (∃ fu4, wl_n_X6_share_4 yn Q fu4 (0 : Int32) (0 : Int32))
def wn_X6_bookedShare (yn : Nat → Int32) (za : Int32) (Q : UInt64 → Int32 → Prop) : Prop :=
  (wn_X6_share yn (fun (r1 : UInt64) => (Q r1 (0 : Int32))))
def wn_X6_mix (a0 : Int64) (a2 : Int64) (Q : Int64 → Prop) : Prop :=
  (Q (((31 : Int64) * a0) + a2))
def wn_Jxf58ca_isNaN_12338 (a0 : UInt32) (Q : Int32 → Prop) : Prop :=
  (((Op.cmpValue (FP.fcmp a0 a0) .l) = 0 → (Q (0 : Int32))) ∧ (¬ (Op.cmpValue (FP.fcmp a0 a0) .l) = 0 → (Q (1 : Int32))))
def wn_Jxf58ca_floatToIntBits_5c35a (a0 : UInt32) (Q : Int32 → Prop) : Prop :=
  (wn_Jxf58ca_isNaN_12338 a0 (fun (r1 : Int32) => ((¬ r1 = 0 → (Q (2143289344 : Int32))) ∧ (r1 = 0 → (Q a0.toInt32)))))
def wj_n_X6_oneHash_66 (yn : Nat → Int32) (yu : Nat → Int32) (yr : Nat → Int32) (Q : Int64 → Prop) (x1 : Int64) (x3 : Int32) (x4 : Int32) (x5 : Int64) (y0 : Int64) (y1 : Int64) : Prop :=
    (wn_X6_mix y0 y1 (fun (r12 : Int64) => (wn_X6_foesOf yn x3 (fun (r13 : Int32) => (wn_X6_bits r13 (fun (r14 : Int32) => (wn_X6_mix r12 r14.toInt64 (fun (r15 : Int64) => (vp_in x3 14 ∧ (wn_X6_mix r15 ((yr x3.toNatClampNeg).toInt64) (fun (r17 : Int64) => (wn_X6_bestSet yu x4 ((1 : Int32) <<< (x3 &&& 31)) (fun (r18 : Int32) => (vp_in r18 16384 ∧ (wn_X6_mix r17 ((yu r18.toNatClampNeg).toInt64) (fun (r20 : Int64) => (Q r20)))))))))))))))))
def wn_X6_oneHash (yn : Nat → Int32) (yu : Nat → Int32) (yr : Nat → Int32) (a1 : Int64) (a3 : Int32) (a4 : Int32) (Q : Int64 → Prop) : Prop :=
  (vp_in a3 45 ∧ (wn_X6_mix a1 ((yn a3.toNatClampNeg).toInt64) (fun (r2 : Int64) => (vp_in ((14 : Int32) + a3) 45 ∧ (wn_X6_mix r2 ((yn ((14 : Int32) + a3).toNatClampNeg).toInt64) (fun (r4 : Int64) => (vp_in ((28 : Int32) + a3) 45 ∧ (wn_X6_mix r4 ((yn ((28 : Int32) + a3).toNatClampNeg).toInt64) (fun (r6 : Int64) => (wn_X6_rate yn a3 (fun (r7 : UInt32) => (wn_Jxf58ca_floatToIntBits_5c35a r7 (fun (r8 : Int32) => (wn_X6_mix r6 r8.toInt64 (fun (r9 : Int64) => (wn_X6_isIn yn a3 (fun (r10 : Int32) => ((r10 = 0 → (wj_n_X6_oneHash_66 yn yu yr Q a1 a3 a4 r6 r9 (0 : Int64))) ∧ (¬ r10 = 0 → (wj_n_X6_oneHash_66 yn yu yr Q a1 a3 a4 r6 r9 (1 : Int64)))))))))))))))))))))
def wn_Jxe99ae_isNaN_b9ae7 (a0 : UInt64) (Q : Int32 → Prop) : Prop :=
  (((Op.cmpValue (FP.dcmp a0 a0) .l) = 0 → (Q (0 : Int32))) ∧ (¬ (Op.cmpValue (FP.dcmp a0 a0) .l) = 0 → (Q (1 : Int32))))
def wn_Jxe99ae_doubleToLongBits_ccdee (a0 : UInt64) (Q : Int64 → Prop) : Prop :=
  (wn_Jxe99ae_isNaN_b9ae7 a0 (fun (r1 : Int32) => ((¬ r1 = 0 → (Q (9221120237041090560 : Int64))) ∧ (r1 = 0 → (Q a0.toInt64)))))
def wl_n_X6_digest_257 (yn : Nat → Int32) (yi : Nat → Int32) (yx : Nat → Int32) (zs : Int32) (zl : Int32) (Q : Int64 → (Nat → Int32) → (Nat → Int32) → (Nat → Int32) → Int32 → Prop) : Nat → (Nat → Int32) → (Nat → Int32) → (Nat → Int32) → Int32 → Int32 → Int32 → Int32 → Int64 → Int32 → Prop
  | 0, _, _, _, _, _, _, _, _, _ => False
  | n + 1, yu, yf, yr, za, x1, x2, x3, x4, x6 =>
    ((zl ≤ x6 → (Q x4 yu yf yr za)) ∧ (¬ zl ≤ x6 → (vp_in x6 60 ∧ (wn_X6_mix x4 ((yx x6.toNatClampNeg).toInt64) (fun (r46 : Int64) => (wl_n_X6_digest_257 yn yi yx zs zl Q n yu yf yr za x1 x2 x3 r46 (x6 + 1)))))))
def wj_n_X6_digest_237 (yn : Nat → Int32) (yi : Nat → Int32) (yx : Nat → Int32) (zs : Int32) (zl : Int32) (Q : Int64 → (Nat → Int32) → (Nat → Int32) → (Nat → Int32) → Int32 → Prop) (yu : Nat → Int32) (yf : Nat → Int32) (yr : Nat → Int32) (za : Int32) (x1 : Int32) (x2 : Int32) (x3 : Int32) (x4 : Int64) (x6 : Int32) (y0 : Int64) (y1 : Int64) : Prop :=
    (wn_X6_mix y0 y1 (fun (r42 : Int64) => (wn_X6_mix r42 zl.toInt64 (fun (r43 : Int64) => (∃ fu257, wl_n_X6_digest_257 yn yi yx zs zl Q fu257 yu yf yr za x1 x2 x3 r43 (0 : Int32))))))
def wj_n_X6_digest_220 (yn : Nat → Int32) (yi : Nat → Int32) (yx : Nat → Int32) (zs : Int32) (zl : Int32) (Q : Int64 → (Nat → Int32) → (Nat → Int32) → (Nat → Int32) → Int32 → Prop) (yu : Nat → Int32) (yf : Nat → Int32) (yr : Nat → Int32) (za : Int32) (x1 : Int32) (x2 : Int32) (x3 : Int32) (x4 : Int64) (x6 : Int32) (y0 : Int64) (y1 : Int64) : Prop :=
    (wn_X6_mix y0 y1 (fun (r39 : Int64) => (vp_in (1 : Int32) 2 ∧ (((yi (1 : Int32).toNatClampNeg) = 0 → (wj_n_X6_digest_237 yn yi yx zs zl Q yu yf yr za x1 x2 x3 x4 x6 r39 (0 : Int64))) ∧ (¬ (yi (1 : Int32).toNatClampNeg) = 0 → (wj_n_X6_digest_237 yn yi yx zs zl Q yu yf yr za x1 x2 x3 x4 x6 r39 (1 : Int64)))))))
def wl_n_X6_digest_41 (yn : Nat → Int32) (yi : Nat → Int32) (yx : Nat → Int32) (zs : Int32) (zl : Int32) (Q : Int64 → (Nat → Int32) → (Nat → Int32) → (Nat → Int32) → Int32 → Prop) : Nat → (Nat → Int32) → (Nat → Int32) → (Nat → Int32) → Int32 → Int32 → Int32 → Int32 → Int64 → Int32 → Prop
  | 0, _, _, _, _, _, _, _, _, _ => False
  | n + 1, yu, yf, yr, za, x1, x2, x3, x4, x6 =>
    (vp_in (44 : Int32) 45 ∧ (((yn (44 : Int32).toNatClampNeg) ≤ x6 → (vp_in (43 : Int32) 45 ∧ (wn_X6_mix x4 ((yn (43 : Int32).toNatClampNeg).toInt64) (fun (r12 : Int64) => (vp_in (42 : Int32) 45 ∧ (wn_X6_bits (yn (42 : Int32).toNatClampNeg) (fun (r14 : Int32) => (wn_X6_mix r12 r14.toInt64 (fun (r15 : Int64) => (wn_X6_fameOfBooked yn (fun (r16 : Int32) => (wn_X6_mix r15 r16.toInt64 (fun (r17 : Int64) => (wn_X6_pairs yn (fun (r18 : Int32) => (wn_X6_mix r17 r18.toInt64 (fun (r19 : Int64) => (wn_X6_pairs yn (fun (r20 : Int32) => (wn_X6_mix r19 r20.toInt64 (fun (r21 : Int64) => (wn_X6_mix r21 x1.toInt64 (fun (r22 : Int64) => (wn_X6_mix r22 x1.toInt64 (fun (r23 : Int64) => (vp_in x3 16384 ∧ (wn_X6_mix r23 ((yu x3.toNatClampNeg).toInt64) (fun (r25 : Int64) => (vp_in x3 16384 ∧ (wn_X6_mix r25 ((yu x3.toNatClampNeg).toInt64) (fun (r27 : Int64) => (wn_X6_mix r27 x3.toInt64 (fun (r28 : Int64) => (wn_X6_most yn yu yf (fun (r29 : Int32) (yu_30 : Nat → Int32) (yf_31 : Nat → Int32) => (wn_X6_mix r28 r29.toInt64 (fun (r32 : Int64) => (wn_X6_mix r32 zs.toInt64 (fun (r33 : Int64) => (wn_X6_share yn (fun (r34 : UInt64) => (wn_Jxe99ae_doubleToLongBits_ccdee r34 (fun (r35 : Int64) => (wn_X6_mix r33 r35 (fun (r36 : Int64) => (vp_in (0 : Int32) 2 ∧ (((yi (0 : Int32).toNatClampNeg) = 0 → (wj_n_X6_digest_220 yn yi yx zs zl Q yu_30 yf_31 yr za x1 x2 x3 r36 x6 r36 (0 : Int64))) ∧ (¬ (yi (0 : Int32).toNatClampNeg) = 0 → (wj_n_X6_digest_220 yn yi yx zs zl Q yu_30 yf_31 yr za x1 x2 x3 r36 x6 r36 (1 : Int64)))))))))))))))))))))))))))))))))))))))))))))))))) ∧ (¬ (yn (44 : Int32).toNatClampNeg) ≤ x6 → (wn_X6_oneHash yn yu yr x4 x6 x2 (fun (r47 : Int64) => (wl_n_X6_digest_41 yn yi yx zs zl Q n yu yf yr za x1 x2 x3 r47 (x6 + 1)))))))
def wn_X6_digest (yn : Nat → Int32) (yu : Nat → Int32) (yf : Nat → Int32) (yr : Nat → Int32) (yi : Nat → Int32) (yx : Nat → Int32) (za : Int32) (zs : Int32) (zl : Int32) (Q : Int64 → (Nat → Int32) → (Nat → Int32) → (Nat → Int32) → Int32 → Prop) : Prop :=
  (wn_X6_give yn yr (fun (r1 : Int32) (yr_2 : Nat → Int32) => (wn_X6_fill yn yu yf (fun (r3 : Int32) (yu_4 : Nat → Int32) (yf_5 : Nat → Int32) => (wn_X6_bestSet yu_4 r3 (0 : Int32) (fun (r6 : Int32) => (vp_in (44 : Int32) 45 ∧ (wn_X6_mix (4327 : Int64) ((yn (44 : Int32).toNatClampNeg).toInt64) (fun (r8 : Int64) => (∃ fu41, wl_n_X6_digest_41 yn yi yx zs zl Q fu41 yu_4 yf_5 yr_2 (0 : Int32) r1 r3 r6 r8 (0 : Int32)))))))))))
