/-! calls that change nothing -/
theorem s_reqD {n : Nat} (hn : n ≤ 14) {dc : Int32} (hd : dc = nI n) {x : Int32} {Q : Prop} {X : String → Prop} (h1 : ∀ r : Nat, x = nI r → r < n → Q) (h0 : ¬ isN n x → X "java/lang/IndexOutOfBoundsException") : wx_X5_requireRehearsal dc x Q X := by
  subst hd
  refine s_reqR hn (fun h => ?_) h0
  obtain ⟨r, hr, e⟩ := isN_of h (by omega)
  exact h1 r e hr
section
variable {d : DV} {yn : Nat → Int32} {za : Int32}
end
