/-! what is asked first -/
theorem ti0 : (0 : Int32).toInt = 0 := by decide
theorem ti1 : (1 : Int32).toInt = 1 := by decide
theorem ti2 : (2 : Int32).toInt = 2 := by decide
theorem ti8 : (8 : Int32).toInt = 8 := by decide
theorem ti50 : (50 : Int32).toInt = 50 := by decide
theorem ti96 : (96 : Int32).toInt = 96 := by decide
def isT (x y : Int32) : Prop := 0 ≤ x.toInt ∧ x.toInt < 96 ∧ x.toInt < y.toInt ∧ y.toInt ≤ 96
def isF (x : Int32) : Prop := 1 ≤ x.toInt ∧ x.toInt ≤ 50
theorem s_reqR {n : Nat} (hn : n ≤ 14) {x : Int32} {Q : Prop} {X : String → Prop} (h1 : isN n x → Q) (h0 : ¬ isN n x → X "java/lang/IndexOutOfBoundsException") : wx_X5_requireRehearsal (nI n) x Q X := by
  unfold wx_X5_requireRehearsal wj_x_X5_requireRehearsal_15
  unfold isN at h1 h0
  rw [Int32.lt_iff_toInt_lt, Int32.lt_iff_toInt_lt, ti0, nI_toInt (by omega)]
  exact ⟨fun hc => h0 (by omega), fun hc => ⟨fun hc2 => h1 (by omega), fun hc2 => h0 (by omega)⟩⟩
theorem s_reqT {x y : Int32} {Q : Prop} {X : String → Prop} (h1 : isT x y → Q) (h0 : ¬ isT x y → X "java/lang/IllegalArgumentException") : wx_X5_requireTimes x y Q X := by
  unfold wx_X5_requireTimes wj_x_X5_requireTimes_21
  unfold isT at h1 h0
  rw [Int32.lt_iff_toInt_lt, Int32.le_iff_toInt_le, Int32.le_iff_toInt_le, Int32.le_iff_toInt_le, ti0, ti96]
  exact ⟨fun hc => h0 (by omega), fun hc => ⟨fun hc2 => h0 (by omega), fun hc2 => ⟨fun hc3 => h0 (by omega), fun hc3 => ⟨fun hc4 => h1 (by omega), fun hc4 => h0 (by omega)⟩⟩⟩⟩
theorem s_reqF {x : Int32} {Q : Prop} {X : String → Prop} (h1 : isF x → Q) (h0 : ¬ isF x → X "java/lang/IllegalArgumentException") : wx_X5_requireFame x Q X := by
  unfold wx_X5_requireFame wj_x_X5_requireFame_11
  unfold isF at h1 h0
  rw [Int32.lt_iff_toInt_lt, Int32.le_iff_toInt_le, ti1, ti50]
  exact ⟨fun hc => h0 (by omega), fun hc => ⟨fun hc2 => h1 (by omega), fun hc2 => h0 (by omega)⟩⟩
theorem s_reqS {x : Int32} {Q : Prop} {X : String → Prop} (h1 : isN 2 x → Q) (h0 : ¬ isN 2 x → X "java/lang/IllegalArgumentException") : wx_X5_requireSlot x Q X := by
  unfold wx_X5_requireSlot wj_x_X5_requireSlot_9
  unfold isN at h1 h0
  rw [Int32.lt_iff_toInt_lt, Int32.lt_iff_toInt_lt, ti0, ti2]
  exact ⟨fun hc => h0 (by omega), fun hc => ⟨fun hc2 => h1 (by omega), fun hc2 => h0 (by omega)⟩⟩
theorem s_reqP {n k : Nat} (hn : n ≤ 14) (hk : k ≤ 100) {Q : Prop} {X : String → Prop} (h1 : n + k ≤ 14 → Q) (h0 : ¬ n + k ≤ 14 → X "java/lang/IllegalStateException") : wx_X5_requirePlacesFor (nI n) (nI k) Q X := by
  unfold wx_X5_requirePlacesFor
  rw [nI_add, z_14, z_le (by omega) (by omega)]
  exact ⟨h1, h0⟩
theorem l64_0 : (0 : Int64).toInt = 0 := by decide
theorem l64_1 : (1 : Int64).toInt = 1 := by decide
theorem l64_8 : (8 : Int64).toInt = 8 := by decide
theorem l64_50 : (50 : Int64).toInt = 50 := by decide
theorem l64_95 : (95 : Int64).toInt = 95 := by decide
theorem l64_96 : (96 : Int64).toInt = 96 := by decide
