/-! a call that takes the caller's whole world -/
theorem rng_map (ws : va_W) : (List.range ws.length).map (fun i => ws[i]?) = ws.map some := by
  apply List.ext_getElem?
  intro i
  rw [List.getElem?_map, List.getElem?_map]
  by_cases h : i < ws.length
  · rw [List.getElem?_range h]
    show some (ws[i]?) = Option.map some (ws[i]?)
    rw [List.getElem?_eq_getElem h]
    rfl
  · rw [List.getElem?_eq_none (by rw [List.length_range]; omega), List.getElem?_eq_none (by omega)]
    rfl
theorem nd51 : va_nd (List.range 51) = true := by decide +kernel
set_option maxRecDepth 100000 in
theorem rg51 (G : mG) (a : Nat → Nat) (o : OB) : (List.range 51).map (fun i => (wOB G a o)[i]?) = (wOB G a o).map some := rng_map (wOB G a o)
theorem kI_i {p : Program} {l : Launch} {e : Env} {R : Room} {s : State} {m : MethodId} {args : Array Value} {below : List Frame} {meth : Method} {c : Code} {H : Heap} {locs : List Loc} {cells slots : Nat} {Q : State → Prop} {pc : Nat} {ls : Array Slot} {st0 rest : List Value} {a : Array Value} {A : Nat → Prop} {mc ms : Nat} {G : mG} {ws : va_W} {S : Type} {post : Int32 → S → Prop} {w1 : S → va_W}
    (hr : va_Run p l e R s m args below meth c H locs cells slots mc ms (F0 m pc ls st0) rest (va_Qi post (mBk G (va_A ws H.size) w1) (va_A ws H.size) a) (va_A ws H.size))
    (hP : va_P (gD G) vwCl ws H) (hD : va_D A ws) (hS : va_S A s.heap H locs) (hA : ∀ q, s.heap.size ≤ q → A q)
    (kk : ∀ (r : Int32) (u : S) (H1 : Heap) (locs1 : List Loc), post r u → va_P (gD G) vwCl (w1 u) H1 → va_D A (w1 u) → va_S A s.heap H1 locs1 → W p l e R s m args below meth c H1 locs1 (cells + mc) (slots + ms) Q (F0 m (pc + 3) ls (.int r :: rest))) :
    W p l e R s m args below meth c H locs cells slots Q (F0 m pc ls st0) :=
  kc_i hr hP hD hS hA (List.range ws.length) [] (rng_map ws) rfl rfl (fun i hi => by cases hi) kk
theorem kI_l {p : Program} {l : Launch} {e : Env} {R : Room} {s : State} {m : MethodId} {args : Array Value} {below : List Frame} {meth : Method} {c : Code} {H : Heap} {locs : List Loc} {cells slots : Nat} {Q : State → Prop} {pc : Nat} {ls : Array Slot} {st0 rest : List Value} {a : Array Value} {A : Nat → Prop} {mc ms : Nat} {G : mG} {ws : va_W} {S : Type} {post : Int64 → S → Prop} {w1 : S → va_W}
    (hr : va_Run p l e R s m args below meth c H locs cells slots mc ms (F0 m pc ls st0) rest (va_Ql post (mBk G (va_A ws H.size) w1) (va_A ws H.size) a) (va_A ws H.size))
    (hP : va_P (gD G) vwCl ws H) (hD : va_D A ws) (hS : va_S A s.heap H locs) (hA : ∀ q, s.heap.size ≤ q → A q)
    (kk : ∀ (r : Int64) (u : S) (H1 : Heap) (locs1 : List Loc), post r u → va_P (gD G) vwCl (w1 u) H1 → va_D A (w1 u) → va_S A s.heap H1 locs1 → W p l e R s m args below meth c H1 locs1 (cells + mc) (slots + ms) Q (F0 m (pc + 3) ls (.long r :: rest))) :
    W p l e R s m args below meth c H locs cells slots Q (F0 m pc ls st0) :=
  kc_l hr hP hD hS hA (List.range ws.length) [] (rng_map ws) rfl rfl (fun i hi => by cases hi) kk
theorem sw23 (x : Int32) : (x.toInt < 0 ∨ 22 < x.toInt) ∨ ∃ k : Nat, k < 23 ∧ x = nI k := by
  by_cases h : x.toInt < 0 ∨ 22 < x.toInt
  · exact Or.inl h
  · obtain ⟨j, hj, hx⟩ := vp_in_of (x := x) (n := 23) (vp_in_iff.mpr (by omega)) (by decide)
    exact Or.inr ⟨j, hj, hx⟩
