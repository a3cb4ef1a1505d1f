/-! the reference's row of numbers, and its small methods -/
def DM (d : DV) (y : Nat → Int32) : Prop := (∀ k, k < vn d → y k = nI (vB d k) ∧ y (14 + k) = nI (vE d k) ∧ y (28 + k) = nI (vF d k)) ∧ y 42 = nI (vK d) ∧ y 43 = nI (vP d) ∧ y 44 = nI (vn d)
/-- what the small methods want of a day -/
def DW (d : DV) : Prop := vn d ≤ 14 ∧ vP d ≤ 8 ∧ ∀ k, k < vn d → vB d k < 1000 ∧ vE d k < 1000
theorem DOK.w {d : DV} (ok : DOK d) : DW d := ⟨ok.1, ok.2.1, fun k hk => by obtain ⟨a, b, -⟩ := ok.2.2.1 k hk; omega⟩
theorem z44 : (44 : Int32).toNatClampNeg = 44 := by decide
theorem z43 : (43 : Int32).toNatClampNeg = 43 := by decide
theorem z42 : (42 : Int32).toNatClampNeg = 42 := by decide
theorem zi44 : vp_in (44 : Int32) 45 := z_in (n := 44) (by decide) (by decide)
theorem zi43 : vp_in (43 : Int32) 45 := z_in (n := 43) (by decide) (by decide)
theorem zi42 : vp_in (42 : Int32) 45 := z_in (n := 42) (by decide) (by decide)
theorem z14p (k : Nat) : (14 : Int32) + nI k = nI (14 + k) := by rw [z_14, nI_add]
theorem z28p (k : Nat) : (28 : Int32) + nI k = nI (28 + k) := by rw [show (28 : Int32) = nI 28 from rfl, nI_add]
/-- how many bits a set has, of the first n -/
def pcn (s : Nat) : Nat → Nat
  | 0 => 0
  | k + 1 => pcn s k + s / 2 ^ k % 2
/-- the set is a choice -/
def chB (d : DV) (S : Nat) : Bool := an (fun k => !(S.testBit k) || decide (mk (cl (vP d) (vB d) (vE d) k) (vn d) &&& S = 0)) (vn d)
/-- a number of one of the first n -/
def isN (n : Nat) (x : Int32) : Prop := 0 ≤ x.toInt ∧ x.toInt < n
theorem isN_of {n : Nat} {x : Int32} (h : isN n x) (hn : n < 2 ^ 31) : ∃ j, j < n ∧ x = nI j := vp_in_of (vp_in_iff.mpr h) hn
