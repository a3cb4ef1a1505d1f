/-! two whole objects beside each other; the script's numbers -/
theorem rngL (x y : va_W) : (List.range x.length).map (fun i => (x ++ y)[i]?) = x.map some := by
  rw [← rng_map x]
  apply List.map_congr_left
  intro i hi
  rw [List.getElem?_append_left (List.mem_range.mp hi)]
theorem rngR (x y : va_W) : ((List.range y.length).map (fun i => x.length + i)).map (fun i => (x ++ y)[i]?) = y.map some := by
  rw [List.map_map, ← rng_map y]
  apply List.map_congr_left
  intro i hi
  show (x ++ y)[x.length + i]? = y[i]?
  rw [List.getElem?_append_right (by omega), Nat.add_sub_cancel_left]
theorem swapP {D : va_G} {x y : va_W} {H : Heap} (h : va_P D vwCl (x ++ y) H) : va_P D vwCl (y ++ x) H := by
  intro k q hq
  have h1 : q ∈ x ++ y := by
    rcases List.mem_append.mp (List.mem_of_getElem? hq) with h | h
    · exact List.mem_append_right _ h
    · exact List.mem_append_left _ h
  obtain ⟨i, hi⟩ := List.getElem?_of_mem h1
  exact h i q hi
theorem swapD {A : Nat → Prop} {x y : va_W} (h : va_D A (x ++ y)) (hn : va_nd ((List.range y.length).map (fun i => x.length + i) ++ List.range x.length) = true) : va_D A (y ++ x) :=
  h.sub _ hn (by rw [List.map_append, rngR, rngL, List.map_append])
theorem disLR (n m : Nat) : ∀ i ∈ (List.range m).map (fun i => n + i), i ∉ List.range n := by
  intro i hi h
  obtain ⟨j, -, rfl⟩ := List.mem_map.mp hi
  have := List.mem_range.mp h
  omega
theorem disRL (n m : Nat) : ∀ i ∈ List.range n, i ∉ (List.range m).map (fun i => n + i) := fun i hi h => disLR n m i h hi
theorem nd51R : va_nd ((List.range 51).map (fun i => 51 + i)) = true := by decide +kernel
theorem nd51S : va_nd ((List.range 51).map (fun i => 51 + i) ++ List.range 51) = true := by decide +kernel
theorem nd102 : va_nd (List.range 102) = true := by decide +kernel
set_option maxRecDepth 100000 in
theorem rgL (G : mG) (a a2 : Nat → Nat) (o v : OB) : (List.range 51).map (fun i => (wOB G a o ++ wOB G a2 v)[i]?) = (wOB G a o).map some := rngL (wOB G a o) (wOB G a2 v)
set_option maxRecDepth 100000 in
theorem rgR (G : mG) (a a2 : Nat → Nat) (o v : OB) : ((List.range 51).map (fun i => 51 + i)).map (fun i => (wOB G a o ++ wOB G a2 v)[i]?) = (wOB G a2 v).map some := rngR (wOB G a o) (wOB G a2 v)
set_option maxRecDepth 100000 in
theorem rg102 (G : mG) (a a2 : Nat → Nat) (o v : OB) : (List.range 102).map (fun i => (wOB G a o ++ wOB G a2 v)[i]?) = (wOB G a o ++ wOB G a2 v).map some := rng_map (wOB G a o ++ wOB G a2 v)
set_option maxRecDepth 100000 in
theorem kL_i {p : Program} {l : Launch} {e : Env} {R : Room} {s : State} {m : MethodId} {args : Array Value} {below : List Frame} {meth : Method} {c : Code} {H : Heap} {locs : List Loc} {cells slots : Nat} {Q : State → Prop} {pc : Nat} {ls : Array Slot} {st0 rest : List Value} {av : Array Value} {A : Nat → Prop} {mc ms : Nat} {G : mG} {a a2 : Nat → Nat} {o v : OB} {post : Int32 → OB → Prop}
    (hr : va_Run p l e R s m args below meth c H locs cells slots mc ms (F0 m pc ls st0) rest (va_Qi post (mBk G (va_A (wOB G a o) H.size) (fun (u : OB) => wOB G a u)) (va_A (wOB G a o) H.size) av) (va_A (wOB G a o) H.size))
    (hP : va_P (gD G) vwCl (wOB G a o ++ wOB G a2 v) H) (hD : va_D A (wOB G a o ++ wOB G a2 v)) (hS : va_S A s.heap H locs) (hA : ∀ q, s.heap.size ≤ q → A q)
    (kk : ∀ (r : Int32) (u : OB) (H1 : Heap) (locs1 : List Loc), post r u → va_P (gD G) vwCl (wOB G a u ++ wOB G a2 v) H1 → va_D A (wOB G a u ++ wOB G a2 v) → va_S A s.heap H1 locs1 → W p l e R s m args below meth c H1 locs1 (cells + mc) (slots + ms) Q (F0 m (pc + 3) ls (.int r :: rest))) :
    W p l e R s m args below meth c H locs cells slots Q (F0 m pc ls st0) := by
  have hF := va_free hD hS hA (List.range 51) (rgL G a a2 o v)
  refine va_calli hr hS (fun q _ h => hF q h) hF (fun r u t H1 locs1 ht hvm hp hB hz1 hk1 hS1 => ?_)
  obtain ⟨hP1, hK1, hD1⟩ := hB
  rw [ht] at hP1
  obtain ⟨hP2, hD2⟩ := va_join hP hD (List.range 51) ((List.range 51).map (fun i => 51 + i)) (rgL G a a2 o v) (rgR G a a2 o v) nd51R (disLR 51 51) hk1 hF hP1 hD1
  exact kk r u H1 locs1 hp (swapP hP2) (swapD hD2 nd51S) hS1
set_option maxRecDepth 100000 in
theorem kR_i {p : Program} {l : Launch} {e : Env} {R : Room} {s : State} {m : MethodId} {args : Array Value} {below : List Frame} {meth : Method} {c : Code} {H : Heap} {locs : List Loc} {cells slots : Nat} {Q : State → Prop} {pc : Nat} {ls : Array Slot} {st0 rest : List Value} {av : Array Value} {A : Nat → Prop} {mc ms : Nat} {G : mG} {a a2 : Nat → Nat} {o v : OB} {post : Int32 → OB → Prop}
    (hr : va_Run p l e R s m args below meth c H locs cells slots mc ms (F0 m pc ls st0) rest (va_Qi post (mBk G (va_A (wOB G a2 v) H.size) (fun (u : OB) => wOB G a2 u)) (va_A (wOB G a2 v) H.size) av) (va_A (wOB G a2 v) H.size))
    (hP : va_P (gD G) vwCl (wOB G a o ++ wOB G a2 v) H) (hD : va_D A (wOB G a o ++ wOB G a2 v)) (hS : va_S A s.heap H locs) (hA : ∀ q, s.heap.size ≤ q → A q)
    (kk : ∀ (r : Int32) (u : OB) (H1 : Heap) (locs1 : List Loc), post r u → va_P (gD G) vwCl (wOB G a o ++ wOB G a2 u) H1 → va_D A (wOB G a o ++ wOB G a2 u) → va_S A s.heap H1 locs1 → W p l e R s m args below meth c H1 locs1 (cells + mc) (slots + ms) Q (F0 m (pc + 3) ls (.int r :: rest))) :
    W p l e R s m args below meth c H locs cells slots Q (F0 m pc ls st0) := by
  have hF := va_free hD hS hA ((List.range 51).map (fun i => 51 + i)) (rgR G a a2 o v)
  refine va_calli hr hS (fun q _ h => hF q h) hF (fun r u t H1 locs1 ht hvm hp hB hz1 hk1 hS1 => ?_)
  obtain ⟨hP1, hK1, hD1⟩ := hB
  rw [ht] at hP1
  obtain ⟨hP2, hD2⟩ := va_join hP hD ((List.range 51).map (fun i => 51 + i)) (List.range 51) (rgR G a a2 o v) (rgL G a a2 o v) nd51 (disRL 51 51) hk1 hF hP1 hD1
  exact kk r u H1 locs1 hp hP2 hD2 hS1
set_option maxRecDepth 100000 in
theorem kL_l {p : Program} {l : Launch} {e : Env} {R : Room} {s : State} {m : MethodId} {args : Array Value} {below : List Frame} {meth : Method} {c : Code} {H : Heap} {locs : List Loc} {cells slots : Nat} {Q : State → Prop} {pc : Nat} {ls : Array Slot} {st0 rest : List Value} {av : Array Value} {A : Nat → Prop} {mc ms : Nat} {G : mG} {a a2 : Nat → Nat} {o v : OB} {post : Int64 → OB → Prop}
    (hr : va_Run p l e R s m args below meth c H locs cells slots mc ms (F0 m pc ls st0) rest (va_Ql post (mBk G (va_A (wOB G a o) H.size) (fun (u : OB) => wOB G a u)) (va_A (wOB G a o) H.size) av) (va_A (wOB G a o) H.size))
    (hP : va_P (gD G) vwCl (wOB G a o ++ wOB G a2 v) H) (hD : va_D A (wOB G a o ++ wOB G a2 v)) (hS : va_S A s.heap H locs) (hA : ∀ q, s.heap.size ≤ q → A q)
    (kk : ∀ (r : Int64) (u : OB) (H1 : Heap) (locs1 : List Loc), post r u → va_P (gD G) vwCl (wOB G a u ++ wOB G a2 v) H1 → va_D A (wOB G a u ++ wOB G a2 v) → va_S A s.heap H1 locs1 → W p l e R s m args below meth c H1 locs1 (cells + mc) (slots + ms) Q (F0 m (pc + 3) ls (.long r :: rest))) :
    W p l e R s m args below meth c H locs cells slots Q (F0 m pc ls st0) := by
  have hF := va_free hD hS hA (List.range 51) (rgL G a a2 o v)
  refine va_calll hr hS (fun q _ h => hF q h) hF (fun r u t H1 locs1 ht hvm hp hB hz1 hk1 hS1 => ?_)
  obtain ⟨hP1, hK1, hD1⟩ := hB
  rw [ht] at hP1
  obtain ⟨hP2, hD2⟩ := va_join hP hD (List.range 51) ((List.range 51).map (fun i => 51 + i)) (rgL G a a2 o v) (rgR G a a2 o v) nd51R (disLR 51 51) hk1 hF hP1 hD1
  exact kk r u H1 locs1 hp (swapP hP2) (swapD hD2 nd51S) hS1
set_option maxRecDepth 100000 in
theorem kR_l {p : Program} {l : Launch} {e : Env} {R : Room} {s : State} {m : MethodId} {args : Array Value} {below : List Frame} {meth : Method} {c : Code} {H : Heap} {locs : List Loc} {cells slots : Nat} {Q : State → Prop} {pc : Nat} {ls : Array Slot} {st0 rest : List Value} {av : Array Value} {A : Nat → Prop} {mc ms : Nat} {G : mG} {a a2 : Nat → Nat} {o v : OB} {post : Int64 → OB → Prop}
    (hr : va_Run p l e R s m args below meth c H locs cells slots mc ms (F0 m pc ls st0) rest (va_Ql post (mBk G (va_A (wOB G a2 v) H.size) (fun (u : OB) => wOB G a2 u)) (va_A (wOB G a2 v) H.size) av) (va_A (wOB G a2 v) H.size))
    (hP : va_P (gD G) vwCl (wOB G a o ++ wOB G a2 v) H) (hD : va_D A (wOB G a o ++ wOB G a2 v)) (hS : va_S A s.heap H locs) (hA : ∀ q, s.heap.size ≤ q → A q)
    (kk : ∀ (r : Int64) (u : OB) (H1 : Heap) (locs1 : List Loc), post r u → va_P (gD G) vwCl (wOB G a o ++ wOB G a2 u) H1 → va_D A (wOB G a o ++ wOB G a2 u) → va_S A s.heap H1 locs1 → W p l e R s m args below meth c H1 locs1 (cells + mc) (slots + ms) Q (F0 m (pc + 3) ls (.long r :: rest))) :
    W p l e R s m args below meth c H locs cells slots Q (F0 m pc ls st0) := by
  have hF := va_free hD hS hA ((List.range 51).map (fun i => 51 + i)) (rgR G a a2 o v)
  refine va_calll hr hS (fun q _ h => hF q h) hF (fun r u t H1 locs1 ht hvm hp hB hz1 hk1 hS1 => ?_)
  obtain ⟨hP1, hK1, hD1⟩ := hB
  rw [ht] at hP1
  obtain ⟨hP2, hD2⟩ := va_join hP hD ((List.range 51).map (fun i => 51 + i)) (List.range 51) (rgR G a a2 o v) (rgL G a a2 o v) nd51 (disRL 51 51) hk1 hF hP1 hD1
  exact kk r u H1 locs1 hp hP2 hD2 hS1
/-- the number that the script has at k, or another where it has none -/
def drawV (xs : Nat → Int32) (L : Nat) (k : Int32) : Int32 := (if Int32.ofNat L ≤ k then ((15595103 : Int32) * k) + (11177 : Int32) else xs k.toNatClampNeg) &&& (2147483647 : Int32)
def dPre (G : mG) (b L : Nat) (xs : Nat → Int32) (sz : Nat) : State → Prop := fun U => mPre G [] sz U ∧ va_X b L xs U U.heap ∧ b < sz
theorem dPre.blind {G : mG} {av : List Value} {b L : Nat} {xs : Nat → Int32} {sz : Nat} : FrameBlind (va_Pc av (dPre G b L xs sz)) := by
  intro a U g mk q
  obtain ⟨q0, q1, qX, qb⟩ := q
  exact ⟨q0, (mPre.blind a U g mk ⟨q0, q1⟩).2, va_X.moved (u := U) (U := U.calling g mk a) (Vm.Alike.refl U.vm) qX, qb⟩
set_option maxRecDepth 100000 in
set_option maxHeartbeats 4000000 in
theorem cd_L_draw (l : Launch) (G : mG) {b L : Nat} {xs : Nat → Int32} {k : Int32} (hk : ¬ Int32.ofNat L ≤ k → vp_in k L) (sz : Nat) : Met l yL_draw wsL_draw ({ frames := 0, cells := 0, slots := 0, locals := 0 } : Room) (va_Pc [.ref b, .int k] (dPre G b L xs sz)) (va_Qi (fun (r : Int32) (_ : Unit) => r = drawV xs L k) (mBk G (va_A [] sz) (fun _ => [])) (va_A [] sz)) 0 0 (va_A [] sz) := by
  refine Met.ofW (cc := cL_draw) (maxL := 2) (ret := some .int) (by decide) rfl ?_
  intro p e s m args below meth c s₁ B hml hv
  obtain ⟨rfl, ⟨hsz, hP, hK, hD0, hG⟩, hX, hbl⟩ := hv
  have hlocks := B.notSynchronized
  have hx := B.exec
  have hb := B.bytes
  have hr := B.returns
  have hts := atoms_spec (ws := wsL_draw) B.pre
  have hown : s.vm.findClass RL = some m.cls := findClass_of_methodNamed B.named
  subst hsz
  have hS : va_S (va_A [] s.heap.size) s.heap s.heap [] := va_S.rf
  have hD : va_D (va_A [] s.heap.size) [] := ⟨fun i j p q h => by simp at h, fun k q h => by simp at h⟩
  have hbA : ¬ va_A [] s.heap.size b := by
    rintro (⟨k, e, h⟩ | h)
    · simp at h
    · omega
  have body : ∀ ls : Array Slot, lv_has ls 2 [(0, .ref b), (1, .int k)] → W p l e ({ frames := 0, cells := 0, slots := 0, locals := 0 } : Room) s m ([.ref b, .int k] : List Value).toArray below meth c s.heap [] 0 0 (MQ below (va_Qi (fun (r : Int32) (_ : Unit) => r = drawV xs L k) (mBk G (va_A [] s.heap.size) (fun _ => [])) (va_A [] s.heap.size)) ([.ref b, .int k] : List Value).toArray s 0 0 (va_A [] s.heap.size)) (F0 m 0 ls []) := by
    intro ls hl
    refine lv_iload_n hx hb dL_draw_0 rfl (lv_at hl 1 rfl) ?_
    refine lv_aload_n hx hb dL_draw_1 rfl (lv_at hl 0 rfl) ?_
    refine va_slen hx hb hX hbl hbA hS dL_draw_2 ?_
    refine lv_icmp_ge (tgt := 12) hx hb dL_draw_3 (by decide) (fun hc => ?_) (fun hc => ?_)
    · refine lv_ldc (v := 15595103) hx hb hown (hts (Cond.constant RL 7 (15595103)) (by decide +kernel)) dL_draw_12 ?_
      refine lv_iload_n hx hb dL_draw_14 rfl (lv_at hl 1 rfl) ?_
      refine lv_imul hx hb dL_draw_15 ?_
      refine lv_sipush (v := 11177) hx hb dL_draw_16 (by decide) ?_
      refine lv_iadd hx hb dL_draw_19 ?_
      refine lv_ldc (v := 2147483647) hx hb hown (hts (Cond.constant RL 8 (2147483647)) (by decide +kernel)) dL_draw_20 ?_
      refine lv_iand hx hb dL_draw_22 ?_
      exact fin_i () hx hb hr hlocks hK hS hP hD (by unfold drawV; rw [if_pos hc]) dL_draw_23
    · refine lv_aload_n hx hb dL_draw_6 rfl (lv_at hl 0 rfl) ?_
      refine lv_iload_n hx hb dL_draw_7 rfl (lv_at hl 1 rfl) ?_
      refine va_sld hx hb hX hbl hbA hS (hk hc) dL_draw_8 ?_
      refine lv_goto (tgt := 20) hx hb dL_draw_9 (by decide) ?_
      refine lv_ldc (v := 2147483647) hx hb hown (hts (Cond.constant RL 8 (2147483647)) (by decide +kernel)) dL_draw_20 ?_
      refine lv_iand hx hb dL_draw_22 ?_
      exact fin_i () hx hb hr hlocks hK hS hP hD (by unfold drawV; rw [if_neg hc]) dL_draw_23
  rw [lg_entry_eq]
  exact body _ (lv_entry [.ref b, .int k] (Nat.le_of_ble_eq_true rfl))
theorem kdraw {p : Program} {l : Launch} {e : Env} {R : Room} {s : State} {m : MethodId} {args : Array Value} {below : List Frame} {meth : Method} {c : Code} {H : Heap} {locs : List Loc} {cells slots : Nat} {Q : State → Prop} {pc : Nat} {ls : Array Slot} {rest : List Value} {A : Nat → Prop} {G : mG} {ws : va_W} {cc : ByteArray} {nL index : Nat} {Ts : List Cond} {own : String} {b L : Nat} {xs : Nat → Int32} {k : Int32}
    (hk : ¬ Int32.ofNat L ≤ k → vp_in k L) (S : CallFix p m c cc nL s args Ts own) (cw : CallB R s args own index yL_draw cL_draw 2 (some .int) wsL_draw ({ frames := 0, cells := 0, slots := 0, locals := 0 } : Room) 0 0 2 ∧ (Cond.static yL_draw).before args s = true)
    (hK : va_K (gD G) vwCl (mTY G) s) (hG : gOK G A s) (hP : va_P (gD G) vwCl ws H) (hD : va_D A ws) (hS : va_S A s.heap H locs) (hA : ∀ q, s.heap.size ≤ q → A q) (hX : va_X b L xs s s.heap) (hbl : b < s.heap.size) (hbA : ¬ A b)
    (hsize : ls.size = nL) (hW : (rest.map fun v => v.category).sum ≤ 8) (hdg : decode cc pc = .ok (.invokestatic index, 3)) (hf : cells ≤ R.cells ∧ slots ≤ R.slots)
    (kk : ∀ (H1 : Heap) (locs1 : List Loc), va_P (gD G) vwCl ws H1 → va_S A s.heap H1 locs1 → W p l e R s m args below meth c H1 locs1 cells slots Q (F0 m (pc + 3) ls (.int (drawV xs L k) :: rest))) :
    W p l e R s m args below meth c H locs cells slots Q (F0 m pc ls (.int k :: .ref b :: rest)) := by
  refine kcR_i (va_runS S (cd_L_draw l G hk H.size) cw ⟨dPre.blind, fun U hU hW => ⟨rfl, mPre.enter hK hG hP hD hS hA [] rfl rfl hU hW, ?_, Nat.lt_of_lt_of_le hbl hS.1⟩⟩ rfl rfl hsize rfl (lv_room hW) hdg hf) hP hD hS hA [] rfl (fun r u H1 locs1 hp hP hS => by rw [hp]; exact kk H1 locs1 hP hS)
  rw [hU]
  exact (hX.moved hW.alike).kept (hS.2.1 b hbl hbA)
