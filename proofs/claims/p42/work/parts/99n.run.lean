/-! p42: what an object holds, as one value; what a call answers, and what it leaves -/
abbrev ST : Type := DV × List DV × (Nat → Option DV) × Nat × (Nat → Nat)
def OKs (st : ST) : Prop := DOK st.1 ∧ (∀ e ∈ st.2.1, DOK e) ∧ (∀ i, i < 2 → ∀ e, st.2.2.1 i = some e → DOK e) ∧ TOK st.2.2.2.1 st.2.2.2.2
def HB (st : ST) (o : OB) : Prop := OKs st ∧ DC st.1 o.1 o.2.1 o.2.2.1 o.2.2.2.1 o.2.2.2.2.1 o.2.2.2.2.2.1 ∧ SC st.2.1 o.2.2.2.2.2.2.1 o.2.2.2.2.2.2.2.1 o.2.2.2.2.2.2.2.2.1 o.2.2.2.2.2.2.2.2.2.1 o.2.2.2.2.2.2.2.2.2.2.1 o.2.2.2.2.2.2.2.2.2.2.2.1 o.2.2.2.2.2.2.2.2.2.2.2.2.1 o.2.2.2.2.2.2.2.2.2.2.2.2.2.1 ∧ NC st.2.2.1 o.2.2.2.2.2.2.2.2.2.2.2.2.2.2.1 o.2.2.2.2.2.2.2.2.2.2.2.2.2.2.2.1 o.2.2.2.2.2.2.2.2.2.2.2.2.2.2.2.2.1 o.2.2.2.2.2.2.2.2.2.2.2.2.2.2.2.2.2.1 o.2.2.2.2.2.2.2.2.2.2.2.2.2.2.2.2.2.2.1 o.2.2.2.2.2.2.2.2.2.2.2.2.2.2.2.2.2.2.2.1 o.2.2.2.2.2.2.2.2.2.2.2.2.2.2.2.2.2.2.2.2.1 ∧ TC st.2.2.2.1 st.2.2.2.2 o.2.2.2.2.2.2.2.2.2.2.2.2.2.2.2.2.2.2.2.2.2.1 o.2.2.2.2.2.2.2.2.2.2.2.2.2.2.2.2.2.2.2.2.2.2.1
/-- from every object that holds st, w answers r and leaves st' -/
def runB {α : Type} (st : ST) (w : OB → (α → OB → Prop) → Prop) (r : α) (st' : ST) : Prop := ∀ o, HB st o → ∀ Q : α → OB → Prop, (∀ o', HB st' o' → Q r o') → w o Q
/-- w's answer, and what it leaves, hang on what the object holds alone -/
def detB {α : Type} (st : ST) (w : OB → (α → OB → Prop) → Prop) : Prop := ∃ (r : α) (st' : ST), runB st w r st'
section
variable {α β : Type} {st st1 st' : ST}
theorem run_ret {r : α} : runB st (fun o Q => Q r o) r st := fun o h _ k => k o h
theorem run_bind {w : OB → (α → OB → Prop) → Prop} {V : α → OB → (β → OB → Prop) → Prop} {r1 : α} {r : β} (h1 : runB st w r1 st1) (h2 : runB st1 (V r1) r st') : runB st (fun o Q => w o (fun r o1 => V r o1 Q)) r st' :=
  fun o h Q k => h1 o h _ (fun o1 ho1 => h2 o1 ho1 Q k)
theorem run_t {c : Prop} {A B : OB → (β → OB → Prop) → Prop} {r : β} (hc : c) (h : runB st A r st') : runB st (fun o Q => (c → A o Q) ∧ (¬ c → B o Q)) r st' := fun o ho Q k => ⟨fun _ => h o ho Q k, fun n => absurd hc n⟩
theorem run_f {c : Prop} {A B : OB → (β → OB → Prop) → Prop} {r : β} (hc : ¬ c) (h : runB st B r st') : runB st (fun o Q => (c → A o Q) ∧ (¬ c → B o Q)) r st' := fun o ho Q k => ⟨fun n => absurd n hc, fun _ => h o ho Q k⟩
theorem run_nt {c : Prop} {A B : OB → (β → OB → Prop) → Prop} {r : β} (hc : c) (h : runB st B r st') : runB st (fun o Q => (¬ c → A o Q) ∧ (c → B o Q)) r st' := fun o ho Q k => ⟨fun n => absurd hc n, fun _ => h o ho Q k⟩
theorem run_nf {c : Prop} {A B : OB → (β → OB → Prop) → Prop} {r : β} (hc : ¬ c) (h : runB st A r st') : runB st (fun o Q => (¬ c → A o Q) ∧ (c → B o Q)) r st' := fun o ho Q k => ⟨fun _ => h o ho Q k, fun n => absurd n hc⟩
theorem run_and {c : Prop} {B : OB → (β → OB → Prop) → Prop} {r : β} (hc : c) (h : runB st B r st') : runB st (fun o Q => c ∧ B o Q) r st' := fun o ho Q k => ⟨hc, h o ho Q k⟩
theorem det_ret {r : α} : detB st (fun o Q => Q r o) := ⟨r, st, run_ret⟩
theorem det_bind {w : OB → (α → OB → Prop) → Prop} {V : α → OB → (β → OB → Prop) → Prop} (h1 : detB st w) (h2 : ∀ r st1, detB st1 (V r)) : detB st (fun o Q => w o (fun r o1 => V r o1 Q)) := by
  obtain ⟨r1, st1, h1⟩ := h1
  obtain ⟨r, st2, h2⟩ := h2 r1 st1
  exact ⟨r, st2, run_bind h1 h2⟩
theorem det_if {c : Prop} {A B : OB → (β → OB → Prop) → Prop} (hA : c → detB st A) (hB : ¬ c → detB st B) : detB st (fun o Q => (c → A o Q) ∧ (¬ c → B o Q)) := by
  by_cases hc : c
  · obtain ⟨r, s, h⟩ := hA hc; exact ⟨r, s, run_t hc h⟩
  · obtain ⟨r, s, h⟩ := hB hc; exact ⟨r, s, run_f hc h⟩
theorem det_nif {c : Prop} {A B : OB → (β → OB → Prop) → Prop} (hA : ¬ c → detB st A) (hB : c → detB st B) : detB st (fun o Q => (¬ c → A o Q) ∧ (c → B o Q)) := by
  by_cases hc : c
  · obtain ⟨r, s, h⟩ := hB hc; exact ⟨r, s, run_nt hc h⟩
  · obtain ⟨r, s, h⟩ := hA hc; exact ⟨r, s, run_nf hc h⟩
theorem det_and {c : Prop} {B : OB → (β → OB → Prop) → Prop} (hc : c) (h : detB st B) : detB st (fun o Q => c ∧ B o Q) := by
  obtain ⟨r, s, h⟩ := h; exact ⟨r, s, run_and hc h⟩
end
theorem isT_nI {b e : Nat} (h : b < e) (he : e ≤ 96) : isT (nI b) (nI e) := by
  unfold isT
  rw [nI_toInt (by omega), nI_toInt (by omega)]
  omega
theorem isF_nI {f : Nat} (h1 : 1 ≤ f) (h2 : f ≤ 50) : isF (nI f) := by
  unfold isF
  rw [nI_toInt (by omega)]
  omega
theorem isP_nI {q : Nat} (h : q ≤ 8) : isP (nI q) := by
  unfold isP
  rw [nI_toInt (by omega)]
  omega
theorem isN_no {n : Nat} (hn : n < 2 ^ 31) : ¬ isN n (nI n) := by
  unfold isN
  rw [nI_toInt (by omega)]
  omega
section
variable {st : ST}
theorem run_add_arg {a b c : Int32} (h : ¬ (isT a b ∧ isF c)) : runB st (fun o Q => wb_L_add o a b c Q) (-9000000000000000002) st := by
  intro o ho Q k
  obtain ⟨ok, c1, c2, c3, c4⟩ := ho
  have hn14 := ok.1.1
  unfold wb_L_add wh_L_add
  exact S_add ok.1 c2 c1 (fun hT hF => absurd ⟨hT, hF⟩ h) (fun _ => Or.inl ⟨rfl, k _ ⟨ok, c1, c2, c3, c4⟩⟩) (fun hT hF => absurd ⟨hT, hF⟩ h)

theorem run_add_state {a b c : Int32} (hT : isT a b) (hF : isF c) (h : ¬ vn st.1 < 14) : runB st (fun o Q => wb_L_add o a b c Q) (-9000000000000000003) st := by
  intro o ho Q k
  obtain ⟨ok, c1, c2, c3, c4⟩ := ho
  have hn14 := ok.1.1
  unfold wb_L_add wh_L_add
  exact S_add ok.1 c2 c1 (fun _ _ hn => absurd hn h) (fun hx => absurd ⟨hT, hF⟩ hx) (fun _ _ _ => Or.inr ⟨rfl, k _ ⟨ok, c1, c2, c3, c4⟩⟩)

theorem run_add {b e f : Nat} (hbe : b < e) (he : e ≤ 96) (hf1 : 1 ≤ f) (hf2 : f ≤ 50) (h : vn st.1 < 14) : runB st (fun o Q => wb_L_add o (nI b) (nI e) (nI f) Q) (nI (vn st.1)).toInt64 (addD st.1 b e f, psh st.2.1 st.1, st.2.2) := by
  intro o ho Q k
  obtain ⟨ok, c1, c2, c3, c4⟩ := ho
  have hn14 := ok.1.1
  unfold wb_L_add wh_L_add
  refine S_add ok.1 c2 c1 (fun _ _ _ b' e' f' q1 q2 q3 g1 g2 g3 g4 so' sn' sb' se' sf' sc' sp' sk' db' de' df' dc' hS' hd' => ?_) (fun hx => absurd ⟨isT_nI hbe he, isF_nI hf1 hf2⟩ hx) (fun _ _ hx => absurd h hx)
  have p1 : b' = b := nI_inj (by omega) (by omega) q1.symm
  have p2 : e' = e := nI_inj (by omega) (by omega) q2.symm
  have p3 : f' = f := nI_inj (by omega) (by omega) q3.symm
  subst p1 p2 p3
  exact k _ ⟨⟨ok.1.add h hbe he hf1 hf2, psh_ok ok.2.1 ok.1, ok.2.2⟩, hd', hS', c3, c4⟩

theorem run_strike_index {a : Int32} (h : ¬ isN (vn st.1) a) : runB st (fun o Q => wb_L_strike o a Q) (-9000000000000000001) st := by
  intro o ho Q k
  obtain ⟨ok, c1, c2, c3, c4⟩ := ho
  have hn14 := ok.1.1
  unfold wb_L_strike wh_L_strike
  exact S_strike ok.1 c2 c1 (fun r e1 hr => absurd (by rw [e1]; exact isN_nI hr (by omega)) h) (fun _ => ⟨rfl, k _ ⟨ok, c1, c2, c3, c4⟩⟩)

theorem run_strike {r : Nat} (hr : r < vn st.1) : runB st (fun o Q => wb_L_strike o (nI r) Q) (nI (vF st.1 r)).toInt64 (delD st.1 r, psh st.2.1 st.1, st.2.2) := by
  intro o ho Q k
  obtain ⟨ok, c1, c2, c3, c4⟩ := ho
  have hn14 := ok.1.1
  unfold wb_L_strike wh_L_strike
  refine S_strike ok.1 c2 c1 (fun r' e1 hr' so' sn' sb' se' sf' sc' sp' sk' db' de' df' dc' dk' hS' hd' => ?_) (fun hx => absurd (isN_nI hr (by omega)) hx)
  have p1 : r' = r := nI_inj (by omega) (by omega) e1.symm
  subst p1
  exact k _ ⟨⟨ok.1.del hr, psh_ok ok.2.1 ok.1, ok.2.2⟩, hd', hS', c3, c4⟩

theorem run_move_index {a b c : Int32} (h : ¬ isN (vn st.1) a) : runB st (fun o Q => wb_L_move o a b c Q) (-9000000000000000001) st := by
  intro o ho Q k
  obtain ⟨ok, c1, c2, c3, c4⟩ := ho
  have hn14 := ok.1.1
  unfold wb_L_move wh_L_move
  exact S_move ok.1 c2 c1 (fun hx => absurd hx h) (fun _ => Or.inl ⟨rfl, k _ ⟨ok, c1, c2, c3, c4⟩⟩) (fun hx => absurd hx h) (fun hx => absurd hx h)

theorem run_move_arg {a b c : Int32} (h0 : isN (vn st.1) a) (h : ¬ isT b c) : runB st (fun o Q => wb_L_move o a b c Q) (-9000000000000000002) st := by
  intro o ho Q k
  obtain ⟨ok, c1, c2, c3, c4⟩ := ho
  have hn14 := ok.1.1
  unfold wb_L_move wh_L_move
  exact S_move ok.1 c2 c1 (fun _ hx => absurd hx h) (fun hx => absurd h0 hx) (fun _ _ => Or.inr (Or.inl ⟨rfl, k _ ⟨ok, c1, c2, c3, c4⟩⟩)) (fun _ hx => absurd hx h)

theorem run_move_state {r b e : Nat} (hr : r < vn st.1) (hbe : b < e) (he : e ≤ 96) (h : ¬ chO (vP st.1) (upN (vB st.1) r b) (upN (vE st.1) r e) (vn st.1) (vK st.1)) : runB st (fun o Q => wb_L_move o (nI r) (nI b) (nI e) Q) (-9000000000000000003) st := by
  intro o ho Q k
  obtain ⟨ok, c1, c2, c3, c4⟩ := ho
  have hn14 := ok.1.1
  unfold wb_L_move wh_L_move
  refine S_move ok.1 c2 c1 (fun _ _ r' b' e' e1 hr' e2 e3 g1 g2 hc so' sn' sb' se' sf' sc' sp' sk' db' de' hS' hd' => ?_) (fun hx => absurd (isN_nI hr (by omega)) hx) (fun _ hx => absurd (isT_nI hbe he) hx) (fun _ _ _ _ _ _ _ _ _ _ _ _ => Or.inr (Or.inr ⟨rfl, k _ ⟨ok, c1, c2, c3, c4⟩⟩))
  have p1 : r' = r := nI_inj (by omega) (by omega) e1.symm
  have p2 : b' = b := nI_inj (by omega) (by omega) e2.symm
  have p3 : e' = e := nI_inj (by omega) (by omega) e3.symm
  subst p1 p2 p3
  exact absurd hc h

theorem run_move {r b e : Nat} (hr : r < vn st.1) (hbe : b < e) (he : e ≤ 96) (h : chO (vP st.1) (upN (vB st.1) r b) (upN (vE st.1) r e) (vn st.1) (vK st.1)) : runB st (fun o Q => wb_L_move o (nI r) (nI b) (nI e) Q) (nI (e - b) - nI (vE st.1 r - vB st.1 r)).toInt64 (movD st.1 r b e, psh st.2.1 st.1, st.2.2) := by
  intro o ho Q k
  obtain ⟨ok, c1, c2, c3, c4⟩ := ho
  have hn14 := ok.1.1
  unfold wb_L_move wh_L_move
  refine S_move ok.1 c2 c1 (fun _ _ r' b' e' e1 hr' e2 e3 g1 g2 hc so' sn' sb' se' sf' sc' sp' sk' db' de' hS' hd' => ?_) (fun hx => absurd (isN_nI hr (by omega)) hx) (fun _ hx => absurd (isT_nI hbe he) hx) (fun _ _ r' b' e' e1 hr' e2 e3 g1 g2 hc => ?_)
  · have p1 : r' = r := nI_inj (by omega) (by omega) e1.symm
    have p2 : b' = b := nI_inj (by omega) (by omega) e2.symm
    have p3 : e' = e := nI_inj (by omega) (by omega) e3.symm
    subst p1 p2 p3
    exact k _ ⟨⟨ok.1.mov hr hbe he h, psh_ok ok.2.1 ok.1, ok.2.2⟩, hd', hS', c3, c4⟩
  · have p1 : r' = r := nI_inj (by omega) (by omega) e1.symm
    have p2 : b' = b := nI_inj (by omega) (by omega) e2.symm
    have p3 : e' = e := nI_inj (by omega) (by omega) e3.symm
    subst p1 p2 p3
    exact absurd h hc

theorem run_fame_index {a b : Int32} (h : ¬ isN (vn st.1) a) : runB st (fun o Q => wb_L_changeFame o a b Q) (-9000000000000000001) st := by
  intro o ho Q k
  obtain ⟨ok, c1, c2, c3, c4⟩ := ho
  have hn14 := ok.1.1
  unfold wb_L_changeFame wh_L_changeFame
  exact S_changeFame ok.1 c2 c1 (fun hx => absurd hx h) (fun _ => Or.inl ⟨rfl, k _ ⟨ok, c1, c2, c3, c4⟩⟩) (fun hx => absurd hx h)

theorem run_fame_arg {a b : Int32} (h0 : isN (vn st.1) a) (h : ¬ isF b) : runB st (fun o Q => wb_L_changeFame o a b Q) (-9000000000000000002) st := by
  intro o ho Q k
  obtain ⟨ok, c1, c2, c3, c4⟩ := ho
  have hn14 := ok.1.1
  unfold wb_L_changeFame wh_L_changeFame
  exact S_changeFame ok.1 c2 c1 (fun _ hx => absurd hx h) (fun hx => absurd h0 hx) (fun _ _ => Or.inr ⟨rfl, k _ ⟨ok, c1, c2, c3, c4⟩⟩)

theorem run_fame {r f : Nat} (hr : r < vn st.1) (hf1 : 1 ≤ f) (hf2 : f ≤ 50) : runB st (fun o Q => wb_L_changeFame o (nI r) (nI f) Q) (nI (vF st.1 r)).toInt64 (famD st.1 r f, psh st.2.1 st.1, st.2.2) := by
  intro o ho Q k
  obtain ⟨ok, c1, c2, c3, c4⟩ := ho
  have hn14 := ok.1.1
  unfold wb_L_changeFame wh_L_changeFame
  refine S_changeFame ok.1 c2 c1 (fun _ _ r' f' e1 hr' e2 g1 g2 so' sn' sb' se' sf' sc' sp' sk' df' hS' hd' => ?_) (fun hx => absurd (isN_nI hr (by omega)) hx) (fun _ hx => absurd (isF_nI hf1 hf2) hx)
  have p1 : r' = r := nI_inj (by omega) (by omega) e1.symm
  have p2 : f' = f := nI_inj (by omega) (by omega) e2.symm
  subst p1 p2
  exact k _ ⟨⟨ok.1.fam hf1 hf2, psh_ok ok.2.1 ok.1, ok.2.2⟩, hd', hS', c3, c4⟩

theorem run_pause_arg {a : Int32} (h : ¬ isP a) : runB st (fun o Q => wb_L_changePause o a Q) (-9000000000000000002) st := by
  intro o ho Q k
  obtain ⟨ok, c1, c2, c3, c4⟩ := ho
  have hn14 := ok.1.1
  unfold wb_L_changePause wh_L_changePause
  exact S_changePause ok.1 c2 c1 (fun hx => absurd hx h) (fun _ => Or.inl ⟨rfl, k _ ⟨ok, c1, c2, c3, c4⟩⟩) (fun hx => absurd hx h)

theorem run_pause_state {q : Nat} (hq : q ≤ 8) (h : ¬ chO q (vB st.1) (vE st.1) (vn st.1) (vK st.1)) : runB st (fun o Q => wb_L_changePause o (nI q) Q) (-9000000000000000003) st := by
  intro o ho Q k
  obtain ⟨ok, c1, c2, c3, c4⟩ := ho
  have hn14 := ok.1.1
  unfold wb_L_changePause wh_L_changePause
  refine S_changePause ok.1 c2 c1 (fun _ q' e1 g1 hc so' sn' sb' se' sf' sc' sp' sk' hS' hd' => ?_) (fun hx => absurd (isP_nI hq) hx) (fun _ _ _ _ _ => Or.inr ⟨rfl, k _ ⟨ok, c1, c2, c3, c4⟩⟩)
  have p1 : q' = q := nI_inj (by omega) (by omega) e1.symm
  subst p1
  exact absurd hc h

theorem run_pauseC {q : Nat} (hq : q ≤ 8) (h : chO q (vB st.1) (vE st.1) (vn st.1) (vK st.1)) : runB st (fun o Q => wb_L_changePause o (nI q) Q) (nI (vP st.1)).toInt64 (pauD st.1 q, psh st.2.1 st.1, st.2.2) := by
  intro o ho Q k
  obtain ⟨ok, c1, c2, c3, c4⟩ := ho
  have hn14 := ok.1.1
  unfold wb_L_changePause wh_L_changePause
  refine S_changePause ok.1 c2 c1 (fun _ q' e1 g1 hc so' sn' sb' se' sf' sc' sp' sk' hS' hd' => ?_) (fun hx => absurd (isP_nI hq) hx) (fun _ q' e1 g1 hc => ?_)
  · have p1 : q' = q := nI_inj (by omega) (by omega) e1.symm
    subst p1
    exact k _ ⟨⟨ok.1.pau hq h, psh_ok ok.2.1 ok.1, ok.2.2⟩, hd', hS', c3, c4⟩
  · have p1 : q' = q := nI_inj (by omega) (by omega) e1.symm
    subst p1
    exact absurd h hc

theorem run_book_index {a : Int32} (h : ¬ isN (vn st.1) a) : runB st (fun o Q => wb_L_book o a Q) (-9000000000000000001) st := by
  intro o ho Q k
  obtain ⟨ok, c1, c2, c3, c4⟩ := ho
  have hn14 := ok.1.1
  unfold wb_L_book wh_L_book
  exact S_book ok.1 c2 c1 (fun hx => absurd hx h) (fun _ => Or.inl ⟨rfl, k _ ⟨ok, c1, c2, c3, c4⟩⟩) (fun hx => absurd hx h)

theorem run_book_state {r : Nat} (hr : r < vn st.1) (h : ¬ ((vK st.1).testBit r = false ∧ mk (cl (vP st.1) (vB st.1) (vE st.1) r) (vn st.1) &&& vK st.1 = 0)) : runB st (fun o Q => wb_L_book o (nI r) Q) (-9000000000000000003) st := by
  intro o ho Q k
  obtain ⟨ok, c1, c2, c3, c4⟩ := ho
  have hn14 := ok.1.1
  unfold wb_L_book wh_L_book
  refine S_book ok.1 c2 c1 (fun _ r' e1 hr' g1 g2 so' sn' sb' se' sf' sc' sp' sk' dk' hS' hd' => ?_) (fun hx => absurd (isN_nI hr (by omega)) hx) (fun _ _ _ _ _ => Or.inr ⟨rfl, k _ ⟨ok, c1, c2, c3, c4⟩⟩)
  have p1 : r' = r := nI_inj (by omega) (by omega) e1.symm
  subst p1
  exact absurd ⟨g1, g2⟩ h

theorem run_book {r : Nat} (hr : r < vn st.1) (h : (vK st.1).testBit r = false ∧ mk (cl (vP st.1) (vB st.1) (vE st.1) r) (vn st.1) &&& vK st.1 = 0) : runB st (fun o Q => wb_L_book o (nI r) Q) (nI (su (vK st.1 ||| 2 ^ r) (vF st.1) (vn st.1))).toInt64 (booD st.1 (vK st.1 ||| 2 ^ r), psh st.2.1 st.1, st.2.2) := by
  intro o ho Q k
  obtain ⟨ok, c1, c2, c3, c4⟩ := ho
  have hn14 := ok.1.1
  unfold wb_L_book wh_L_book
  refine S_book ok.1 c2 c1 (fun _ r' e1 hr' g1 g2 so' sn' sb' se' sf' sc' sp' sk' dk' hS' hd' => ?_) (fun hx => absurd (isN_nI hr (by omega)) hx) (fun _ r' e1 hr' hx => ?_)
  · have p1 : r' = r := nI_inj (by omega) (by omega) e1.symm
    subst p1
    exact k _ ⟨⟨ok.1.boo (put_lt ok.1.2.2.2.1 hr) (chO_put ok.1.2.2.2.2 hr h.2), psh_ok ok.2.1 ok.1, ok.2.2⟩, hd', hS', c3, c4⟩
  · have p1 : r' = r := nI_inj (by omega) (by omega) e1.symm
    subst p1
    exact absurd h hx

theorem run_cancel_index {a : Int32} (h : ¬ isN (vn st.1) a) : runB st (fun o Q => wb_L_cancel o a Q) (-9000000000000000001) st := by
  intro o ho Q k
  obtain ⟨ok, c1, c2, c3, c4⟩ := ho
  have hn14 := ok.1.1
  unfold wb_L_cancel wh_L_cancel
  exact S_cancel ok.1 c2 c1 (fun hx => absurd hx h) (fun _ => Or.inl ⟨rfl, k _ ⟨ok, c1, c2, c3, c4⟩⟩) (fun hx => absurd hx h)

theorem run_cancel_state {r : Nat} (hr : r < vn st.1) (h : (vK st.1).testBit r = false) : runB st (fun o Q => wb_L_cancel o (nI r) Q) (-9000000000000000003) st := by
  intro o ho Q k
  obtain ⟨ok, c1, c2, c3, c4⟩ := ho
  have hn14 := ok.1.1
  unfold wb_L_cancel wh_L_cancel
  refine S_cancel ok.1 c2 c1 (fun _ r' e1 hr' g1 so' sn' sb' se' sf' sc' sp' sk' dk' hS' hd' => ?_) (fun hx => absurd (isN_nI hr (by omega)) hx) (fun _ _ _ _ _ => Or.inr ⟨rfl, k _ ⟨ok, c1, c2, c3, c4⟩⟩)
  have p1 : r' = r := nI_inj (by omega) (by omega) e1.symm
  subst p1
  rw [h] at g1; cases g1

theorem run_cancel {r : Nat} (hr : r < vn st.1) (h : (vK st.1).testBit r = true) : runB st (fun o Q => wb_L_cancel o (nI r) Q) (nI (su (clr (vK st.1) r) (vF st.1) (vn st.1))).toInt64 (booD st.1 (clr (vK st.1) r), psh st.2.1 st.1, st.2.2) := by
  intro o ho Q k
  obtain ⟨ok, c1, c2, c3, c4⟩ := ho
  have hn14 := ok.1.1
  unfold wb_L_cancel wh_L_cancel
  refine S_cancel ok.1 c2 c1 (fun _ r' e1 hr' g1 so' sn' sb' se' sf' sc' sp' sk' dk' hS' hd' => ?_) (fun hx => absurd (isN_nI hr (by omega)) hx) (fun _ r' e1 hr' hx => ?_)
  · have p1 : r' = r := nI_inj (by omega) (by omega) e1.symm
    subst p1
    exact k _ ⟨⟨ok.1.boo (Nat.lt_of_le_of_lt (clr_le _ _) ok.1.2.2.2.1) (chO_sub ok.1.2.2.2.2 (fun j hj => by rw [clr_bit (by omega) ok.1.K31] at hj; simp at hj; exact hj.1)), psh_ok ok.2.1 ok.1, ok.2.2⟩, hd', hS', c3, c4⟩
  · have p1 : r' = r := nI_inj (by omega) (by omega) e1.symm
    subst p1
    rw [h] at hx; cases hx

theorem run_append_arg {a : Int32} (h : ¬ isC a) : runB st (fun o Q => wb_L_append o a Q) (-9000000000000000002) st := by
  intro o ho Q k
  obtain ⟨ok, c1, c2, c3, c4⟩ := ho
  have hn14 := ok.1.1
  unfold wb_L_append wh_L_append
  exact S_append c4 (fun hx => absurd hx h) (fun _ => Or.inl ⟨rfl, k _ ⟨ok, c1, c2, c3, c4⟩⟩) (fun hx => absurd hx h)

theorem run_append_state {a : Int32} (h0 : isC a) (h : ¬ st.2.2.2.1 < 60) : runB st (fun o Q => wb_L_append o a Q) (-9000000000000000003) st := by
  intro o ho Q k
  obtain ⟨ok, c1, c2, c3, c4⟩ := ho
  have hn14 := ok.1.1
  unfold wb_L_append wh_L_append
  exact S_append c4 (fun _ hx => absurd hx h) (fun hx => absurd h0 hx) (fun _ _ => Or.inr ⟨rfl, k _ ⟨ok, c1, c2, c3, c4⟩⟩)

theorem run_append {a : Int32} {c : Nat} (h0 : isC a) (e0 : a = nI c) (g1 : 33 ≤ c) (g2 : c ≤ 126) (h : st.2.2.2.1 < 60) : runB st (fun o Q => wb_L_append o a Q) (nI (st.2.2.2.1 + 1)).toInt64 (st.1, st.2.1, st.2.2.1, st.2.2.2.1 + 1, upN st.2.2.2.2 st.2.2.2.1 c) := by
  intro o ho Q k
  obtain ⟨ok, c1, c2, c3, c4⟩ := ho
  have hn14 := ok.1.1
  unfold wb_L_append wh_L_append
  refine S_append c4 (fun _ _ c' tc' e1 q1 q2 ht' => ?_) (fun hx => absurd h0 hx) (fun _ hx => absurd h hx)
  have p1 : c' = c := nI_inj (by omega) (by omega) (e1.symm.trans e0)
  subst p1
  exact k _ ⟨⟨ok.1, ok.2.1, ok.2.2.1, ok.2.2.2.put h g1 g2⟩, c1, c2, c3, ht'⟩

theorem run_keep_arg {a : Int32} (h : ¬ isN 2 a) : runB st (fun o Q => wb_L_keep o a Q) (-9000000000000000002) st := by
  intro o ho Q k
  obtain ⟨ok, c1, c2, c3, c4⟩ := ho
  have hn14 := ok.1.1
  unfold wb_L_keep wh_L_keep
  exact S_keep ok.1.1 c3 c1 (fun i hi e1 => absurd (by rw [e1]; exact isN_nI hi (by omega)) h) (fun _ => ⟨rfl, k _ ⟨ok, c1, c2, c3, c4⟩⟩)

theorem run_keep {i : Nat} (hi : i < 2) : runB st (fun o Q => wb_L_keep o (nI i) Q) 0 (st.1, st.2.1, upO st.2.2.1 i st.1, st.2.2.2) := by
  intro o ho Q k
  obtain ⟨ok, c1, c2, c3, c4⟩ := ho
  have hn14 := ok.1.1
  unfold wb_L_keep wh_L_keep
  refine S_keep ok.1.1 c3 c1 (fun i' hi' e1 nb' ne' nf' nc' np' nk' tk' hN => ?_) (fun hx => absurd (isN_nI hi (by omega)) hx)
  have p1 : i' = i := nI_inj (by omega) (by omega) e1.symm
  subst p1
  exact k _ ⟨⟨ok.1, ok.2.1, upO_ok ok.2.2.1 ok.1, ok.2.2.2⟩, c1, c2, hN, c4⟩

theorem run_back_arg {a : Int32} (h : ¬ isN 2 a) : runB st (fun o Q => wb_L_goBack o a Q) (-9000000000000000002) st := by
  intro o ho Q k
  obtain ⟨ok, c1, c2, c3, c4⟩ := ho
  have hn14 := ok.1.1
  unfold wb_L_goBack wh_L_goBack
  exact S_goBack ok.1.1 c3 c2 c1 (fun hx => absurd hx h) (fun _ => Or.inl ⟨rfl, k _ ⟨ok, c1, c2, c3, c4⟩⟩) (fun hx => absurd hx h)

theorem run_back_state {i : Nat} (hi : i < 2) (h : st.2.2.1 i = none) : runB st (fun o Q => wb_L_goBack o (nI i) Q) (-9000000000000000003) st := by
  intro o ho Q k
  obtain ⟨ok, c1, c2, c3, c4⟩ := ho
  have hn14 := ok.1.1
  unfold wb_L_goBack wh_L_goBack
  refine S_goBack ok.1.1 c3 c2 c1 (fun _ i' e hi' e1 hN => ?_) (fun hx => absurd (isN_nI hi (by omega)) hx) (fun _ _ _ _ _ => Or.inr ⟨rfl, k _ ⟨ok, c1, c2, c3, c4⟩⟩)
  have p1 : i' = i := nI_inj (by omega) (by omega) e1.symm
  subst p1
  rw [h] at hN; cases hN

theorem run_back {i : Nat} {e : DV} (hi : i < 2) (h : st.2.2.1 i = some e) : runB st (fun o Q => wb_L_goBack o (nI i) Q) 0 (e, psh st.2.1 st.1, st.2.2) := by
  intro o ho Q k
  obtain ⟨ok, c1, c2, c3, c4⟩ := ho
  have hn14 := ok.1.1
  unfold wb_L_goBack wh_L_goBack
  refine S_goBack ok.1.1 c3 c2 c1 (fun _ i' e' hi' e1 hN db' de' df' dc' dp' dk' so' sn' sb' se' sf' sc' sp' sk' hS' hd' => ?_) (fun hx => absurd (isN_nI hi (by omega)) hx) (fun _ i' hi' e1 hN => ?_)
  · have p1 : i' = i := nI_inj (by omega) (by omega) e1.symm
    subst p1
    rw [h] at hN; cases hN
    exact k _ ⟨⟨ok.2.2.1 i' hi' e h, psh_ok ok.2.1 ok.1, ok.2.2⟩, hd', hS', c3, c4⟩
  · have p1 : i' = i := nI_inj (by omega) (by omega) e1.symm
    subst p1
    rw [h] at hN; cases hN

theorem run_undo {T : List DV} {e : DV} (h : st.2.1 = T ++ [e]) : runB st (fun o Q => wb_L_undo o Q) 0 (e, T, st.2.2) := by
  intro o ho Q k
  obtain ⟨ok, c1, c2, c3, c4⟩ := ho
  have hn14 := ok.1.1
  unfold wb_L_undo wh_L_undo
  refine S_undo c2 (fun S' e' hSe db' de' df' dc' dp' dk' sn' hS' hd' => ?_) (fun hb => ?_)
  · rw [h] at hSe
    obtain ⟨q1, q2⟩ := List.append_inj' hSe rfl
    cases q1; cases q2
    exact k _ ⟨⟨ok.2.1 e (by rw [h]; simp), fun x hx => ok.2.1 x (by rw [h]; exact List.mem_append_left _ hx), ok.2.2⟩, hd', hS', c3, c4⟩
  · rw [h] at hb; simp at hb

theorem run_undo_state (h : st.2.1 = []) : runB st (fun o Q => wb_L_undo o Q) (-9000000000000000003) st := by
  intro o ho Q k
  obtain ⟨ok, c1, c2, c3, c4⟩ := ho
  have hn14 := ok.1.1
  unfold wb_L_undo wh_L_undo
  exact S_undo c2 (fun S' e' hSe => by rw [h] at hSe; simp at hSe) (fun _ => ⟨rfl, k _ ⟨ok, c1, c2, c3, c4⟩⟩)

theorem run_beginOf_index {a : Int32} (h : ¬ isN (vn st.1) a) : runB st (fun o Q => wb_L_beginOf o a Q) (-9000000000000000001) st := by
  intro o ho Q k
  obtain ⟨ok, c1, c2, c3, c4⟩ := ho
  have hn14 := ok.1.1
  unfold wb_L_beginOf wh_L_beginOf wx_X5_beginOf
  exact s_reqD ok.1.1 c1.1 (fun r e1 hr => absurd (by rw [e1]; exact isN_nI hr (by omega)) h) (fun _ => ⟨rfl, k _ ⟨ok, c1, c2, c3, c4⟩⟩)

theorem run_beginOf {r : Nat} (hr : r < vn st.1) : runB st (fun o Q => wb_L_beginOf o (nI r) Q) (nI (vB st.1 r)).toInt64 st := by
  intro o ho Q k
  obtain ⟨ok, c1, c2, c3, c4⟩ := ho
  have hn14 := ok.1.1
  unfold wb_L_beginOf wh_L_beginOf wx_X5_beginOf
  refine s_reqD ok.1.1 c1.1 (fun r' e1 hr' => ?_) (fun hx => absurd (isN_nI hr (by omega)) hx)
  rw [z_cl (n := r) (by omega), (c1.2.2.2 r hr).1]
  exact ⟨z_in (by omega) (by decide), k _ ⟨ok, c1, c2, c3, c4⟩⟩

theorem run_endOf_index {a : Int32} (h : ¬ isN (vn st.1) a) : runB st (fun o Q => wb_L_endOf o a Q) (-9000000000000000001) st := by
  intro o ho Q k
  obtain ⟨ok, c1, c2, c3, c4⟩ := ho
  have hn14 := ok.1.1
  unfold wb_L_endOf wh_L_endOf wx_X5_endOf
  exact s_reqD ok.1.1 c1.1 (fun r e1 hr => absurd (by rw [e1]; exact isN_nI hr (by omega)) h) (fun _ => ⟨rfl, k _ ⟨ok, c1, c2, c3, c4⟩⟩)

theorem run_endOf {r : Nat} (hr : r < vn st.1) : runB st (fun o Q => wb_L_endOf o (nI r) Q) (nI (vE st.1 r)).toInt64 st := by
  intro o ho Q k
  obtain ⟨ok, c1, c2, c3, c4⟩ := ho
  have hn14 := ok.1.1
  unfold wb_L_endOf wh_L_endOf wx_X5_endOf
  refine s_reqD ok.1.1 c1.1 (fun r' e1 hr' => ?_) (fun hx => absurd (isN_nI hr (by omega)) hx)
  rw [z_cl (n := r) (by omega), (c1.2.2.2 r hr).2.1]
  exact ⟨z_in (by omega) (by decide), k _ ⟨ok, c1, c2, c3, c4⟩⟩

theorem run_fameOf_index {a : Int32} (h : ¬ isN (vn st.1) a) : runB st (fun o Q => wb_L_fameOf o a Q) (-9000000000000000001) st := by
  intro o ho Q k
  obtain ⟨ok, c1, c2, c3, c4⟩ := ho
  have hn14 := ok.1.1
  unfold wb_L_fameOf wh_L_fameOf wx_X5_fameOf
  exact s_reqD ok.1.1 c1.1 (fun r e1 hr => absurd (by rw [e1]; exact isN_nI hr (by omega)) h) (fun _ => ⟨rfl, k _ ⟨ok, c1, c2, c3, c4⟩⟩)

theorem run_fameOf {r : Nat} (hr : r < vn st.1) : runB st (fun o Q => wb_L_fameOf o (nI r) Q) (nI (vF st.1 r)).toInt64 st := by
  intro o ho Q k
  obtain ⟨ok, c1, c2, c3, c4⟩ := ho
  have hn14 := ok.1.1
  unfold wb_L_fameOf wh_L_fameOf wx_X5_fameOf
  refine s_reqD ok.1.1 c1.1 (fun r' e1 hr' => ?_) (fun hx => absurd (isN_nI hr (by omega)) hx)
  rw [z_cl (n := r) (by omega), (c1.2.2.2 r hr).2.2]
  exact ⟨z_in (by omega) (by decide), k _ ⟨ok, c1, c2, c3, c4⟩⟩

theorem run_isBooked_index {a : Int32} (h : ¬ isN (vn st.1) a) : runB st (fun o Q => wb_L_isBooked o a Q) (-9000000000000000001) st := by
  intro o ho Q k
  obtain ⟨ok, c1, c2, c3, c4⟩ := ho
  have hn14 := ok.1.1
  unfold wb_L_isBooked wh_L_isBooked wx_X5_isBooked
  exact s_reqD ok.1.1 c1.1 (fun r e1 hr => absurd (by rw [e1]; exact isN_nI hr (by omega)) h) (fun _ => ⟨rfl, k _ ⟨ok, c1, c2, c3, c4⟩⟩)

theorem run_isBooked {r : Nat} (hr : r < vn st.1) : runB st (fun o Q => wb_L_isBooked o (nI r) Q) (if (vK st.1).testBit r = true then 1 else 0) st := by
  intro o ho Q k
  obtain ⟨ok, c1, c2, c3, c4⟩ := ho
  have hn14 := ok.1.1
  unfold wb_L_isBooked wh_L_isBooked wx_X5_isBooked wn_X1_hasBooked
  refine s_reqD ok.1.1 c1.1 (fun r' e1 hr' => ?_) (fun hx => absurd (isN_nI hr (by omega)) hx)
  have hin : ∀ {Q : Int32 → Prop}, Q (if (vK st.1).testBit r = true then 1 else 0) → wn_X5_isIn o.2.2.2.2.2.1 (nI r) Q := by
    intro Q h
    rw [c1.2.2.1]
    exact s_isIn ok.1.K31 (by omega) h
  refine hin ?_
  cases hb : (vK st.1).testBit r
  · rw [hb] at k
    exact ⟨fun _ => k _ ⟨ok, c1, c2, c3, c4⟩, fun hx => absurd rfl hx⟩
  · rw [hb] at k
    exact ⟨fun hx => absurd hx (by decide), fun _ => k _ ⟨ok, c1, c2, c3, c4⟩⟩

theorem run_conflict_index {a b : Int32} (h : ¬ (isN (vn st.1) a ∧ isN (vn st.1) b)) : runB st (fun o Q => wb_L_conflict o a b Q) (-9000000000000000001) st := by
  intro o ho Q k
  obtain ⟨ok, c1, c2, c3, c4⟩ := ho
  have hn14 := ok.1.1
  unfold wb_L_conflict wh_L_conflict wx_X5_areInConflict
  refine s_reqD ok.1.1 c1.1 (fun r e1 hr => s_reqD ok.1.1 c1.1 (fun r2 e2 hr2 => absurd ⟨by rw [e1]; exact isN_nI hr (by omega), by rw [e2]; exact isN_nI hr2 (by omega)⟩ h) (fun _ => ⟨rfl, k _ ⟨ok, c1, c2, c3, c4⟩⟩)) (fun _ => ⟨rfl, k _ ⟨ok, c1, c2, c3, c4⟩⟩)

theorem run_conflict {i j : Nat} (hi : i < vn st.1) (hj : j < vn st.1) : runB st (fun o Q => wb_L_conflict o (nI i) (nI j) Q) (if cl (vP st.1) (vB st.1) (vE st.1) i j = true then 1 else 0) st := by
  intro o ho Q k
  obtain ⟨ok, c1, c2, c3, c4⟩ := ho
  have hn14 := ok.1.1
  unfold wb_L_conflict wh_L_conflict wx_X5_areInConflict
  refine s_reqD ok.1.1 c1.1 (fun r e1 hr => s_reqD ok.1.1 c1.1 (fun r2 e2 hr2 => ?_) (fun hx => absurd (isN_nI hj (by omega)) hx)) (fun hx => absurd (isN_nI hi (by omega)) hx)
  refine s_clash (c1.r ok.1) hi hj ?_
  cases hb : cl (vP st.1) (vB st.1) (vE st.1) i j
  · rw [hb] at k
    exact ⟨fun _ => k _ ⟨ok, c1, c2, c3, c4⟩, fun hx => absurd rfl hx⟩
  · rw [hb] at k
    exact ⟨fun hx => absurd hx (by decide), fun _ => k _ ⟨ok, c1, c2, c3, c4⟩⟩

theorem run_conflictsOf_index {a : Int32} (h : ¬ isN (vn st.1) a) : runB st (fun o Q => wb_L_conflictsOf o a Q) (-9000000000000000001) st := by
  intro o ho Q k
  obtain ⟨ok, c1, c2, c3, c4⟩ := ho
  have hn14 := ok.1.1
  unfold wb_L_conflictsOf wh_L_conflictsOf wx_X5_conflictsOf
  exact s_reqD ok.1.1 c1.1 (fun r e1 hr => absurd (by rw [e1]; exact isN_nI hr (by omega)) h) (fun _ => ⟨rfl, k _ ⟨ok, c1, c2, c3, c4⟩⟩)

theorem run_conflictsOf {r : Nat} (hr : r < vn st.1) : runB st (fun o Q => wb_L_conflictsOf o (nI r) Q) (nI (ct (cl (vP st.1) (vB st.1) (vE st.1) r) (vn st.1))).toInt64 st := by
  intro o ho Q k
  obtain ⟨ok, c1, c2, c3, c4⟩ := ho
  have hn14 := ok.1.1
  unfold wb_L_conflictsOf wh_L_conflictsOf wx_X5_conflictsOf
  refine s_reqD ok.1.1 c1.1 (fun r' e1 hr' => ?_) (fun hx => absurd (isN_nI hr (by omega)) hx)
  have hlt : mk (cl (vP st.1) (vB st.1) (vE st.1) r) (vn st.1) < 2 ^ 14 := Nat.lt_of_lt_of_le (mk_lt _ _) (Nat.pow_le_pow_right (by decide) hn14)
  refine s_conflictsWith (c1.r ok.1) hr (s_bits hlt ?_)
  rw [pcn_mk _ hn14]
  exact k _ ⟨ok, c1, c2, c3, c4⟩

theorem run_roomOf_index {a : Int32} (h : ¬ isN (vn st.1) a) : runB st (fun o Q => wb_L_roomOf o a Q) (-9000000000000000001) st := by
  intro o ho Q k
  obtain ⟨ok, c1, c2, c3, c4⟩ := ho
  have hn14 := ok.1.1
  unfold wb_L_roomOf wh_L_roomOf wx_X5_roomOf
  exact s_reqD ok.1.1 c1.1 (fun r e1 hr => absurd (by rw [e1]; exact isN_nI hr (by omega)) h) (fun _ => ⟨rfl, k _ ⟨ok, c1, c2, c3, c4⟩⟩)

theorem run_roomOf {L : List Nat} {R : Nat → Nat} (hL : ordB st.1 L) (hg : gvn st.1 L R (vn st.1)) {r : Nat} (hr : r < vn st.1) : runB st (fun o Q => wb_L_roomOf o (nI r) Q) (nI (R r)).toInt64 st := by
  intro o ho Q k
  obtain ⟨ok, c1, c2, c3, c4⟩ := ho
  have hn14 := ok.1.1
  unfold wb_L_roomOf wh_L_roomOf wx_X5_roomOf
  refine s_reqD ok.1.1 c1.1 (fun r' e1 hr' => ?_) (fun hx => absurd (isN_nI hr (by omega)) hx)
  unfold wn_X2_givenTo
  refine s_giveAll ok.1 c1 hL hg (fun ro1 rg1 hR => ⟨z_in (by omega) (by decide), ?_⟩)
  rw [z_cl (n := r) (by omega), hR r hr]
  exact k _ ⟨ok, c1, c2, c3, c4⟩

theorem run_bestWith_index {a : Int32} (h : ¬ isN (vn st.1) a) : runB st (fun o Q => wb_L_bestWith o a Q) (-9000000000000000001) st := by
  intro o ho Q k
  obtain ⟨ok, c1, c2, c3, c4⟩ := ho
  have hn14 := ok.1.1
  unfold wb_L_bestWith wh_L_bestWith wx_X5_bestWith
  exact s_reqD ok.1.1 c1.1 (fun r e1 hr => absurd (by rw [e1]; exact isN_nI hr (by omega)) h) (fun _ => ⟨rfl, k _ ⟨ok, c1, c2, c3, c4⟩⟩)

theorem run_bestWith {r b : Nat} (hr : r < vn st.1) (hb : bestOf st.1 (2 ^ r) (2 ^ vn st.1) b) : runB st (fun o Q => wb_L_bestWith o (nI r) Q) (nI (su b (vF st.1) (vn st.1))).toInt64 st := by
  intro o ho Q k
  obtain ⟨ok, c1, c2, c3, c4⟩ := ho
  have hn14 := ok.1.1
  unfold wb_L_bestWith wh_L_bestWith wx_X5_bestWith
  have hM14 : (2:Nat) ^ vn st.1 ≤ 2 ^ 14 := Nat.pow_le_pow_right (by decide) hn14
  refine s_reqD ok.1.1 c1.1 (fun r' e1 hr' => ?_) (fun hx => absurd (isN_nI hr (by omega)) hx)
  have h2r : (2:Nat) ^ r < 2 ^ 14 := Nat.pow_lt_pow_right (by decide) (by omega)
  have hml : mk (cl (vP st.1) (vB st.1) (vE st.1) r) (vn st.1) < 2 ^ 14 := Nat.lt_of_lt_of_le (mk_lt _ _) (Nat.pow_le_pow_right (by decide) hn14)
  have hcl : clr (2 ^ vn st.1 - 1) r ≤ 2 ^ vn st.1 - 1 := clr_le _ _
  have hle : ntm (clr (2 ^ vn st.1 - 1) r) (mk (cl (vP st.1) (vB st.1) (vE st.1) r) (vn st.1)) ≤ clr (2 ^ vn st.1 - 1) r := Nat.and_le_left
  have e2 : (nI (2 ^ vn st.1 - 1) &&& (nI (2 ^ r) ^^^ (-1 : Int32))) &&& (nI (mk (cl (vP st.1) (vB st.1) (vE st.1) r) (vn st.1)) ^^^ (-1 : Int32)) = nI (ntm (clr (2 ^ vn st.1 - 1) r) (mk (cl (vP st.1) (vB st.1) (vE st.1) r) (vn st.1))) := by
    rw [z_mone, z_mone, z_and, z_and, Nat.mod_eq_of_lt (by omega), Nat.mod_eq_of_lt (by omega)]; rfl
  refine s_allD ok.1 c1.1 (s_bit (by omega) (s_conflictsWith (c1.r ok.1) hr ⟨z_in (by omega) (by decide), ?_⟩))
  rw [e2, z_cl (n := r) (by omega), (c1.2.2.2 r hr).2.2]
  refine s_fameAmong ok.1 c1 (by omega) (fun y ho1 ht1 hy => ?_)
  have e3 := with_eq ok.1 hr (fun k hk => by
    rw [ntm_bit (by omega) (by omega), clr_bit (by omega) (by omega), all_bit, mk_bit, decide_eq_true hk]
    simp) hy hb
  rw [nI_add, ← e3]
  exact k _ ⟨ok, c1, c2, c3, c4⟩

theorem run_rehearsals : runB st (fun o Q => wb_X5_rehearsals o Q) (nI (vn st.1)) st := by
  intro o ho Q k
  obtain ⟨ok, c1, c2, c3, c4⟩ := ho
  have hn14 := ok.1.1
  unfold wb_X5_rehearsals wn_X5_rehearsals
  rw [c1.1]
  exact k _ ⟨ok, c1, c2, c3, c4⟩

theorem run_pause : runB st (fun o Q => wb_X5_pause o Q) (nI (vP st.1)) st := by
  intro o ho Q k
  obtain ⟨ok, c1, c2, c3, c4⟩ := ho
  have hn14 := ok.1.1
  unfold wb_X5_pause wn_X5_pause
  rw [c1.2.1]
  exact k _ ⟨ok, c1, c2, c3, c4⟩

theorem run_savedStates : runB st (fun o Q => wb_X5_savedStates o Q) (nI st.2.1.length) st := by
  intro o ho Q k
  obtain ⟨ok, c1, c2, c3, c4⟩ := ho
  have hn14 := ok.1.1
  unfold wb_X5_savedStates wn_X5_savedStates
  have e1 : o.2.2.2.2.2.2.2.1 = nI st.2.1.length := by obtain ⟨o1, -, -, h, -⟩ := c2; exact h
  rw [e1]
  exact k _ ⟨ok, c1, c2, c3, c4⟩

theorem run_booked : runB st (fun o Q => wb_X5_booked o Q) (nI (pcn (vK st.1) 14)) st := by
  intro o ho Q k
  obtain ⟨ok, c1, c2, c3, c4⟩ := ho
  have hn14 := ok.1.1
  unfold wb_X5_booked wn_X5_booked
  rw [c1.2.2.1]
  exact s_bits ok.1.K (k _ ⟨ok, c1, c2, c3, c4⟩)

theorem run_bookedFame : runB st (fun o Q => wb_X5_bookedFame o Q) (nI (su (vK st.1) (vF st.1) (vn st.1))) st := by
  intro o ho Q k
  obtain ⟨ok, c1, c2, c3, c4⟩ := ho
  have hn14 := ok.1.1
  unfold wb_X5_bookedFame wn_X5_bookedFame
  rw [c1.2.2.1]
  exact s_fameOfSet (c1.r ok.1) ok.1.K31 (k _ ⟨ok, c1, c2, c3, c4⟩)

theorem run_conflictsByPairs : runB st (fun o Q => wb_X5_conflictsByPairs o Q) (nI (prs (vn st.1) (vP st.1) (vB st.1) (vE st.1))) st := by
  intro o ho Q k
  obtain ⟨ok, c1, c2, c3, c4⟩ := ho
  have hn14 := ok.1.1
  unfold wb_X5_conflictsByPairs
  exact s_conflictsByPairs (c1.r ok.1) (k _ ⟨ok, c1, c2, c3, c4⟩)

theorem run_conflictsBySweep : runB st (fun o Q => wb_X5_conflictsBySweep o Q) (nI (prs (vn st.1) (vP st.1) (vB st.1) (vE st.1))) st := by
  intro o ho Q k
  obtain ⟨ok, c1, c2, c3, c4⟩ := ho
  have hn14 := ok.1.1
  unfold wb_X5_conflictsBySweep wn_X5_conflictsBySweep
  exact s_sweptPairs (c1.r ok.1) (k _ ⟨ok, c1, c2, c3, c4⟩)

theorem run_roomsBySweep {L : List Nat} {R : Nat → Nat} (hL : ordB st.1 L) (hg : gvn st.1 L R (vn st.1)) {x : Nat} (hx : mxO (fun k => k < vn st.1) R x) : runB st (fun o Q => wb_X5_roomsBySweep o Q) (nI x) st := by
  intro o ho Q k
  obtain ⟨ok, c1, c2, c3, c4⟩ := ho
  have hn14 := ok.1.1
  unfold wb_X5_roomsBySweep wn_X5_roomsBySweep
  refine s_sweptRooms (c1.r ok.1) ?_
  rw [rooms_eq ok.1 hL hg hx]
  exact k _ ⟨ok, c1, c2, c3, c4⟩

theorem run_roomsByGiving {L : List Nat} {R : Nat → Nat} (hL : ordB st.1 L) (hg : gvn st.1 L R (vn st.1)) {x : Nat} (hx : mxO (fun k => k < vn st.1) R x) : runB st (fun o Q => wb_X5_roomsByGiving o Q) (nI x) st := by
  intro o ho Q k
  obtain ⟨ok, c1, c2, c3, c4⟩ := ho
  have hn14 := ok.1.1
  unfold wb_X5_roomsByGiving wn_X5_roomsByGiving
  refine s_givenRooms ok.1 c1 hL hg (fun x' ro1 rg1 hx' => ?_)
  rw [mxO_un hx' hx]
  exact k _ ⟨ok, c1, c2, c3, c4⟩

theorem run_bestByTrying {b : Nat} (hb : bestOf st.1 0 (2 ^ vn st.1) b) : runB st (fun o Q => wb_X5_bestByTrying o Q) (nI (su b (vF st.1) (vn st.1))) st := by
  intro o ho Q k
  obtain ⟨ok, c1, c2, c3, c4⟩ := ho
  have hn14 := ok.1.1
  unfold wb_X5_bestByTrying wn_X5_bestByTrying
  refine s_triedFame ok.1 c1 (fun x hc1 hx => ?_)
  rw [← best_eq hx hb]
  exact k _ ⟨ok, c1, c2, c3, c4⟩

theorem run_bestByTable {b : Nat} (hb : bestOf st.1 0 (2 ^ vn st.1) b) : runB st (fun o Q => wb_X5_bestByTable o Q) (nI (su b (vF st.1) (vn st.1))) st := by
  intro o ho Q k
  obtain ⟨ok, c1, c2, c3, c4⟩ := ho
  have hn14 := ok.1.1
  unfold wb_X5_bestByTable wn_X5_bestByTable
  have hM14 : (2:Nat) ^ vn st.1 ≤ 2 ^ 14 := Nat.pow_le_pow_right (by decide) hn14
  refine s_allD ok.1 c1.1 (s_fameAmong ok.1 c1 (by omega) (fun x ho1 ht1 hx => ?_))
  rw [su_best hb (fun k hk => by rw [all_bit]; exact decide_eq_true (bit_lt hb.1 hk)) hx]
  exact k _ ⟨ok, c1, c2, c3, c4⟩

theorem run_bestChoice {b : Nat} (hb : bestOf st.1 0 (2 ^ vn st.1) b) : runB st (fun o Q => wb_X5_bestChoice o Q) (nI b) st := by
  intro o ho Q k
  obtain ⟨ok, c1, c2, c3, c4⟩ := ho
  have hn14 := ok.1.1
  unfold wb_X5_bestChoice wn_X5_bestChoice
  refine s_bestSet ok.1 c1 (fun b' ho1 ht1 hb' => ?_)
  rw [bestOf_un hb' hb]
  exact k _ ⟨ok, c1, c2, c3, c4⟩

theorem run_mostRehearsals {mo : Nat} (hm : mostOf st.1 (2 ^ vn st.1) mo) : runB st (fun o Q => wb_X5_mostRehearsals o Q) (nI mo) st := by
  intro o ho Q k
  obtain ⟨ok, c1, c2, c3, c4⟩ := ho
  have hn14 := ok.1.1
  unfold wb_X5_mostRehearsals wn_X5_mostRehearsals
  refine s_mostInOne ok.1 c1 (fun x ho1 hx => ?_)
  rw [mostOf_un hx hm]
  exact k _ ⟨ok, c1, c2, c3, c4⟩

theorem run_bookBest {b : Nat} (hb : bestOf st.1 0 (2 ^ vn st.1) b) : runB st (fun o Q => wb_X5_bookBest o Q) (nI (pcn b 14)) (booD st.1 b, psh st.2.1 st.1, st.2.2) := by
  intro o ho Q k
  obtain ⟨ok, c1, c2, c3, c4⟩ := ho
  have hn14 := ok.1.1
  unfold wb_X5_bookBest wn_X5_bookBest
  have hM14 : (2:Nat) ^ vn st.1 ≤ 2 ^ 14 := Nat.pow_le_pow_right (by decide) hn14
  refine s_save ok.1.1 c2 c1 (fun so1 sn1 sb1 se1 sf1 sc1 sp1 sk1 hS1 => s_bestSet ok.1 c1 (fun b' ho1 ht1 hb' => s_bits (by have := hb'.1; omega) ?_))
  rw [bestOf_un hb' hb]
  exact k _ ⟨⟨ok.1.boo hb.1 ((chB_iff st.1 b).mp hb.2.1.1), psh_ok ok.2.1 ok.1, ok.2.2⟩, c1.boo b, hS1, c3, c4⟩

theorem run_clearBuffer : runB st (fun o Q => wb_X5_clearBuffer o Q) (nI st.2.2.2.1) (st.1, st.2.1, st.2.2.1, 0, st.2.2.2.2) := by
  intro o ho Q k
  obtain ⟨ok, c1, c2, c3, c4⟩ := ho
  have hn14 := ok.1.1
  unfold wb_X5_clearBuffer wn_X5_clearBuffer
  have e1 : o.2.2.2.2.2.2.2.2.2.2.2.2.2.2.2.2.2.2.2.2.2.2.1 = nI st.2.2.2.1 := c4.1
  rw [e1]
  exact k _ ⟨⟨ok.1, ok.2.1, ok.2.2.1, Nat.zero_le _, fun k hk => absurd hk (Nat.not_lt_zero k)⟩, c1, c2, c3, ⟨rfl, Nat.zero_le _, fun k hk => absurd hk (Nat.not_lt_zero k)⟩⟩

theorem run_firstError {q : Nat} (hq : stpAt st.2.2.2.2 st.2.2.2.1 q) : runB st (fun o Q => wb_X5_firstError o Q) (nI q) st := by
  intro o ho Q k
  obtain ⟨ok, c1, c2, c3, c4⟩ := ho
  have hn14 := ok.1.1
  unfold wb_X5_firstError wn_X5_firstError
  refine s_scan c4 ok.2.2.2 (fun q' tn1 tf1 tv1 hq' _ => ?_)
  rw [stpAt_un hq' hq]
  exact k _ ⟨ok, c1, c2, c3, c4⟩

theorem run_digest {L : List Nat} {R W : Nat → Nat} {b x mo : Nat} (ho0 : dgO st.1 L R W b x mo) : runB st (fun o Q => wb_X5_digest o Q) (hDg st.1 st.2.2.1 R W b x mo st.2.1.length st.2.2.2.1 st.2.2.2.2) st := by
  intro o ho Q k
  obtain ⟨ok, c1, c2, c3, c4⟩ := ho
  have hn14 := ok.1.1
  unfold wb_X5_digest
  obtain ⟨so', hso1, hso2, hsn, -⟩ := id c2
  refine s_digest ok.1 c1 ho0 hsn c3 c4 (fun ro1 rg1 ho1 hc1 ht1 => ?_)
  exact k _ ⟨ok, c1, c2, c3, c4⟩

theorem run_read_arg (h : ¬ ∃ m M, tlO st.2.2.2.2 st.2.2.2.1 m M ∧ rngO M m) : runB st (fun o Q => wb_L_read o Q) (-9000000000000000002) st := by
  intro o ho Q k
  obtain ⟨ok, c1, c2, c3, c4⟩ := ho
  have hn14 := ok.1.1
  unfold wb_L_read wh_L_read
  exact S_read ok.1 c2 c1 c4 ok.2.2.2 (fun m M htl hr => absurd ⟨m, M, htl, hr⟩ h) (fun _ tn1 tf1 tv1 => Or.inl ⟨rfl, k _ ⟨ok, c1, c2, c3, c4⟩⟩) (fun m M htl hr => absurd ⟨m, M, htl, hr⟩ h)

theorem run_read_state {m : Nat} {M : Nat → Nat} (h : tlO st.2.2.2.2 st.2.2.2.1 m M) (hr : rngO M m) (h14 : ¬ vn st.1 + m ≤ 14) : runB st (fun o Q => wb_L_read o Q) (-9000000000000000003) st := by
  intro o ho Q k
  obtain ⟨ok, c1, c2, c3, c4⟩ := ho
  have hn14 := ok.1.1
  unfold wb_L_read wh_L_read
  refine S_read ok.1 c2 c1 c4 ok.2.2.2 (fun m' M' htl hr' hle so1 sn1 sb1 se1 sf1 sc1 sp1 sk1 db1 de1 df1 dc1 tn1 tf1 tv1 hS1 hd1 => ?_) (fun hx => absurd ⟨m, M, h, hr⟩ hx) (fun _ _ _ _ _ tn1 tf1 tv1 => Or.inr ⟨rfl, k _ ⟨ok, c1, c2, c3, c4⟩⟩)
  obtain ⟨e1, e2⟩ := tlO_un h htl
  subst e1
  exact absurd hle h14

theorem run_read {m : Nat} {M : Nat → Nat} (h : tlO st.2.2.2.2 st.2.2.2.1 m M) (hr : rngO M m) (h14 : vn st.1 + m ≤ 14) : runB st (fun o Q => wb_L_read o Q) (nI (vn st.1 + m)).toInt64 (addM st.1 M m, psh st.2.1 st.1, st.2.2.1, 0, st.2.2.2.2) := by
  intro o ho Q k
  obtain ⟨ok, c1, c2, c3, c4⟩ := ho
  have hn14 := ok.1.1
  unfold wb_L_read wh_L_read
  refine S_read ok.1 c2 c1 c4 ok.2.2.2 (fun m' M' htl hr' hle so1 sn1 sb1 se1 sf1 sc1 sp1 sk1 db1 de1 df1 dc1 tn1 tf1 tv1 hS1 hd1 => ?_) (fun hx => absurd ⟨m, M, h, hr⟩ hx) (fun m' M' htl hr' hle => ?_)
  · obtain ⟨e1, e2⟩ := tlO_un h htl
    subst e1 e2
    have hdc := hd1.1
    rw [addM_n] at hdc
    have hok2 := addM_ok ok.1 h14 hr (tlO_ok h).1
    rw [hdc] at hd1 ⊢
    exact k _ ⟨⟨hok2, psh_ok ok.2.1 ok.1, ok.2.2.1, Nat.zero_le _, fun k hk => absurd hk (Nat.not_lt_zero k)⟩, hd1, hS1, c3, ⟨rfl, Nat.zero_le _, fun k hk => absurd hk (Nat.not_lt_zero k)⟩⟩
  · obtain ⟨e1, e2⟩ := tlO_un h htl
    subst e1
    exact absurd h14 hle

theorem lst_last {α : Type} : ∀ (S : List α), S ≠ [] → ∃ (T : List α) (e : α), S = T ++ [e]
  | [], h => absurd rfl h
  | [a], _ => ⟨[], a, rfl⟩
  | a :: b :: S, _ => by
    obtain ⟨T, e, h⟩ := lst_last (b :: S) (List.cons_ne_nil _ _)
    exact ⟨a :: T, e, by rw [h]; rfl⟩
theorem det_add (a b c : Int32) : detB st (fun o Q => wb_L_add o a b c Q) := by
  by_cases h : isT a b ∧ isF c
  · by_cases hn : vn st.1 < 14
    · obtain ⟨b', e', rfl, rfl, h1, h2⟩ := isT_of h.1
      obtain ⟨f', rfl, h3, h4⟩ := isF_of h.2
      exact ⟨_, _, run_add h1 h2 h3 h4 hn⟩
    · exact ⟨_, _, run_add_state h.1 h.2 hn⟩
  · exact ⟨_, _, run_add_arg h⟩
theorem det_strike (a : Int32) (hn : vn st.1 ≤ 14) : detB st (fun o Q => wb_L_strike o a Q) := by
  by_cases h : isN (vn st.1) a
  · obtain ⟨r, hr, rfl⟩ := isN_of h (by omega)
    exact ⟨_, _, run_strike hr⟩
  · exact ⟨_, _, run_strike_index h⟩
theorem det_move (a b c : Int32) (hn : vn st.1 ≤ 14) : detB st (fun o Q => wb_L_move o a b c Q) := by
  by_cases h : isN (vn st.1) a
  · by_cases h2 : isT b c
    · obtain ⟨r, hr, rfl⟩ := isN_of h (by omega)
      obtain ⟨b', e', rfl, rfl, h3, h4⟩ := isT_of h2
      by_cases hc : chO (vP st.1) (upN (vB st.1) r b') (upN (vE st.1) r e') (vn st.1) (vK st.1)
      · exact ⟨_, _, run_move hr h3 h4 hc⟩
      · exact ⟨_, _, run_move_state hr h3 h4 hc⟩
    · exact ⟨_, _, run_move_arg h h2⟩
  · exact ⟨_, _, run_move_index h⟩
theorem det_changeFame (a b : Int32) (hn : vn st.1 ≤ 14) : detB st (fun o Q => wb_L_changeFame o a b Q) := by
  by_cases h : isN (vn st.1) a
  · by_cases h2 : isF b
    · obtain ⟨r, hr, rfl⟩ := isN_of h (by omega)
      obtain ⟨f', rfl, h3, h4⟩ := isF_of h2
      exact ⟨_, _, run_fame hr h3 h4⟩
    · exact ⟨_, _, run_fame_arg h h2⟩
  · exact ⟨_, _, run_fame_index h⟩
theorem det_changePause (a : Int32) : detB st (fun o Q => wb_L_changePause o a Q) := by
  by_cases h : isP a
  · obtain ⟨q, rfl, h2⟩ := isP_of h
    by_cases hc : chO q (vB st.1) (vE st.1) (vn st.1) (vK st.1)
    · exact ⟨_, _, run_pauseC h2 hc⟩
    · exact ⟨_, _, run_pause_state h2 hc⟩
  · exact ⟨_, _, run_pause_arg h⟩
theorem det_book (a : Int32) (hn : vn st.1 ≤ 14) : detB st (fun o Q => wb_L_book o a Q) := by
  by_cases h : isN (vn st.1) a
  · obtain ⟨r, hr, rfl⟩ := isN_of h (by omega)
    by_cases hc : (vK st.1).testBit r = false ∧ mk (cl (vP st.1) (vB st.1) (vE st.1) r) (vn st.1) &&& vK st.1 = 0
    · exact ⟨_, _, run_book hr hc⟩
    · exact ⟨_, _, run_book_state hr hc⟩
  · exact ⟨_, _, run_book_index h⟩
theorem det_cancel (a : Int32) (hn : vn st.1 ≤ 14) : detB st (fun o Q => wb_L_cancel o a Q) := by
  by_cases h : isN (vn st.1) a
  · obtain ⟨r, hr, rfl⟩ := isN_of h (by omega)
    cases hc : (vK st.1).testBit r
    · exact ⟨_, _, run_cancel_state hr hc⟩
    · exact ⟨_, _, run_cancel hr hc⟩
  · exact ⟨_, _, run_cancel_index h⟩
theorem det_append (a : Int32) : detB st (fun o Q => wb_L_append o a Q) := by
  by_cases h : isC a
  · by_cases hn : st.2.2.2.1 < 60
    · obtain ⟨c, e, h1, h2⟩ := isC_of h
      exact ⟨_, _, run_append h e h1 h2 hn⟩
    · exact ⟨_, _, run_append_state h hn⟩
  · exact ⟨_, _, run_append_arg h⟩
theorem det_read : detB st (fun o Q => wb_L_read o Q) := by
  by_cases h : ∃ m M, tlO st.2.2.2.2 st.2.2.2.1 m M ∧ rngO M m
  · obtain ⟨m, M, h1, h2⟩ := h
    by_cases hn : vn st.1 + m ≤ 14
    · exact ⟨_, _, run_read h1 h2 hn⟩
    · exact ⟨_, _, run_read_state h1 h2 hn⟩
  · exact ⟨_, _, run_read_arg h⟩
theorem det_keep (a : Int32) : detB st (fun o Q => wb_L_keep o a Q) := by
  by_cases h : isN 2 a
  · obtain ⟨i, hi, rfl⟩ := isN_of h (by omega)
    exact ⟨_, _, run_keep hi⟩
  · exact ⟨_, _, run_keep_arg h⟩
theorem det_goBack (a : Int32) : detB st (fun o Q => wb_L_goBack o a Q) := by
  by_cases h : isN 2 a
  · obtain ⟨i, hi, rfl⟩ := isN_of h (by omega)
    cases hN : st.2.2.1 i with
    | none => exact ⟨_, _, run_back_state hi hN⟩
    | some e => exact ⟨_, _, run_back hi hN⟩
  · exact ⟨_, _, run_back_arg h⟩
theorem det_undo : detB st (fun o Q => wb_L_undo o Q) := by
  by_cases h : st.2.1 = []
  · exact ⟨_, _, run_undo_state h⟩
  · obtain ⟨T, e, h2⟩ := lst_last st.2.1 h
    exact ⟨_, _, run_undo h2⟩
theorem det_bookBest : detB st (fun o Q => wb_X5_bookBest o Q) := by
  obtain ⟨b, hb⟩ := bestOf_ex st.1
  exact ⟨_, _, run_bookBest hb⟩
end
