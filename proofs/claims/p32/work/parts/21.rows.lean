-- ENDS
theorem vx_ofWF {y : MethodName} {ws ws' : List Cond} {l : Launch} {rm : Room} {Pc : Array Value → State → Prop} {Qc : Array Value → State → Outcome → State → Prop} {XC : String → State → State → Prop} {mc ms : Nat} {free : Addr → Prop} {cc : ByteArray} {maxL : Nat} {ret : Option FieldType}
    (hy : plainFor y = true) (hw : ws = Cond.code y cc maxL ret :: ws')
    (body : ∀ p e s m args below meth c s₁, BodyLoose p l y (headSpec ws rm) cc maxL ret e s m args below meth c s₁ → c.maxLocals = maxL → (∀ x ∈ c.exceptionTable.toList, False) → Pc args s →
      W p l e (headSpec ws rm).room s m args below meth c s.heap [] 0 0 (vx_MQ below Qc XC args s mc ms free) (entryFrame m args maxL)) : vx_Met l y ws rm Pc Qc XC mc ms free := by
  refine MetFree.of_bodySF (code := cc) (maxLocals := maxL) (ret := ret) hy ?_ ?_
  · intro args s m h hn
    obtain ⟨meth, c, h1, h2, h3, h4, h5, h6, -, -⟩ := Cond.code_spec hn (atoms_spec (ws := ws) h _ (by rw [hw]; exact List.mem_cons_self))
    exact ⟨meth, c, h1, h2, h3, h4, h5, h6⟩
  · intro p e s m args below meth c s₁ B hml hP _
    have hh0 : s₁.heap = s.heap := by rw [B.state]; rfl
    have ht : ∀ x ∈ c.exceptionTable.toList, False := by
      obtain ⟨meth9, c9, h1, h2, -, -, -, -, h7, -⟩ := Cond.code_spec B.named (atoms_spec (ws := ws) B.pre _ (by rw [hw]; exact List.mem_cons_self))
      cases Option.some.inj (h1.symm.trans B.method)
      cases Option.some.inj (h2.symm.trans (Stand.of_body B).code)
      intro x hx
      rw [Array.isEmpty_iff.mp h7] at hx
      cases hx
    obtain ⟨t, a1, o, b1, b2, b3⟩ := body p e s m args below meth c s₁ B hml ht hP s₁ hh0 (Stand.of_body B)
    exact ⟨t, o, a1, b1, b2, b3⟩
section JE
variable {d : DD} {mi : MInfo} {R : Room} {u : Nat} {Post : Out → HP → Prop} {pc : Nat} {L : List (Nat × Value)} {g : HP} {b : Nat}
theorem J_iret {v : Int32} (hd : decode mi.2.1 pc = .ok (.ireturn, 1)) (hr : ∃ ty, mi.2.2.2.1 = some ty ∧ ((ty = .int) ∨ (ty = .boolean ∧ (v = 0 ∨ v = 1)))) (hb : b ≤ u) (hp : Post (.inl (some (.int v))) g) : J d mi R (jZ d u Post) pc L [.int v] g b := by
  intro p l E s m args below meth c H locs ls C hW hS hl
  obtain ⟨⟨hx, hb', hml, hown, hts⟩, hlocks, hret, htab, hname, hlt, hGF, hGH⟩ := C
  refine W.widen (k := u) (n := 12 * u) hb (Nat.mul_le_mul_left 12 hb) (vx_ret ?_)
  obtain ⟨ty, hr1, hr2⟩ := hr
  rcases hr2 with rfl | ⟨rfl, hv⟩
  · exact W.iret (v := v) hx hb' (hret.trans hr1) (fun t ht hWm => ⟨some (.int v), g, rfl, hp, by rw [ht]; exact hW, hS.F ht⟩) hS.2.2 hd hlocks
  · exact W.zret (v := v) hx hb' (hret.trans hr1) (by rcases hv with rfl | rfl <;> rfl) (fun t ht hWm => ⟨some (.int v), g, rfl, hp, by rw [ht]; exact hW, hS.F ht⟩) hS.2.2 hd hlocks
theorem J_lret {v : Int64} (hd : decode mi.2.1 pc = .ok (.lreturn, 1)) (hr : mi.2.2.2.1 = some .long) (hb : b ≤ u) (hp : Post (.inl (some (.long v))) g) : J d mi R (jZ d u Post) pc L [.long v] g b := by
  intro p l E s m args below meth c H locs ls C hW hS hl
  obtain ⟨⟨hx, hb', hml, hown, hts⟩, hlocks, hret, htab, hname, hlt, hGF, hGH⟩ := C
  refine W.widen (k := u) (n := 12 * u) hb (Nat.mul_le_mul_left 12 hb) (vx_ret ?_)
  exact W.lret (v := v) hx hb' (hret.trans hr) (fun t ht hWm => ⟨some (.long v), g, rfl, hp, by rw [ht]; exact hW, hS.F ht⟩) hS.2.2 hd hlocks
theorem J_vret (hd : decode mi.2.1 pc = .ok (.return_, 1)) (hr : mi.2.2.2.1 = none) (hb : b ≤ u) (hp : Post (.inl none) g) : J d mi R (jZ d u Post) pc L [] g b := by
  intro p l E s m args below meth c H locs ls C hW hS hl
  obtain ⟨⟨hx, hb', hml, hown, hts⟩, hlocks, hret, htab, hname, hlt, hGF, hGH⟩ := C
  refine W.widen (k := u) (n := 12 * u) hb (Nat.mul_le_mul_left 12 hb) (vx_ret ?_)
  exact W.vret hx hb' (hret.trans hr) (fun t ht hWm => ⟨none, g, rfl, hp, by rw [ht]; exact hW, hS.F ht⟩) hS.2.2 hd hlocks
theorem J_aret {v : Value} (hd : decode mi.2.1 pc = .ok (.areturn, 1)) (hr : ∃ n, mi.2.2.2.1 = some (.object n)) (hv : v = .null ∨ ∃ a, v = .ref a) (hb : b ≤ u) (hp : Post (.inl (some v)) g) : J d mi R (jZ d u Post) pc L [v] g b := by
  intro p l E s m args below meth c H locs ls C hW hS hl
  obtain ⟨⟨hx, hb', hml, hown, hts⟩, hlocks, hret, htab, hname, hlt, hGF, hGH⟩ := C
  refine W.widen (k := u) (n := 12 * u) hb (Nat.mul_le_mul_left 12 hb) (vx_ret ?_)
  obtain ⟨n, hr1⟩ := hr
  exact W.aret (v := v) (rt := .object n) hx hb' (hret.trans hr1) (Or.inl ⟨n, rfl⟩) hv (fun t ht hWm => ⟨some v, g, rfl, hp, by rw [ht]; exact hW, hS.F ht⟩) hS.2.2 hd hlocks
/-- not caught in this method -/
theorem JT_out {x : Nat} (hx3 : x < 3) (hh : mi.2.2.2.2.2 = []) (hb : b ≤ u) (hp : Post (.inr x) g) : JT d mi R (jZ d u Post) pc L x g b := by
  intro p l E s m args below meth c H locs ls st ce q C hW hS hl h1 h2 h3
  obtain ⟨⟨hx, hb', hml, hown, hts⟩, hlocks, hret, htab, hname, hlt, hGF, hGH⟩ := C
  refine vx_out (by rw [htab, hh]; intro x hx; cases hx) hlocks h1 h2 h3 (fun t ht hv => ⟨x, g, hx3, rfl, hp, by rw [ht]; exact hW, hS.F ht⟩) hS.2.2 hb (Nat.mul_le_mul_left 12 hb)
/-- a method's contract out of the walk of its body -/
theorem Ct_of_J {e : Nat} {args : List Value} (hh : mi.2.2.2.2.2 = []) (hy : plainFor mi.1 = true) (hn : (lg_sl args).length ≤ mi.2.2.1) (hJ : J d mi (rmOf e u) (jZ d u Post) 0 (lv_args 0 args) [] g 0) : Ct d mi e u args g Post := by
  intro l hl
  refine vx_ofWF (ws' := TB) (cc := mi.2.1) (maxL := mi.2.2.1) (ret := mi.2.2.2.1) hy (by unfold mCode; rw [if_pos hh]) ?_
  intro p E s m args' below meth c s₁ B hml hT hv
  obtain ⟨rfl, hGF, hGH, hW⟩ := hv
  have hts := atoms_spec (ws := mCode mi :: TB) B.pre
  rw [lg_entry_eq]
  have htab : c.exceptionTable.toList = tableOf mi.2.2.2.2.2 := by
    rw [hh]
    cases hc : c.exceptionTable.toList with
    | nil => rfl
    | cons x r => exact (hT x (by rw [hc]; exact List.mem_cons_self)).elim
  exact hJ p l E s m args.toArray below meth c s.heap [] _ ⟨⟨B.exec, B.bytes, hml, findClass_of_methodNamed B.named, fun w hw => hts w (List.mem_cons_of_mem _ hw)⟩, B.notSynchronized, B.returns, htab, (name_of_methodNamed B.named B.method).1, hl, hGF, hGH⟩ hW va_S.rf (lv_entry args hn)
theorem Ct_of_JH {e : Nat} {args : List Value} (hh : mi.2.2.2.2.2 ≠ []) (hy : plainName mi.1.cls = true) (hn : (lg_sl args).length ≤ mi.2.2.1) (hJ : J d mi (rmOf e u) (jZ d u Post) 0 (lv_args 0 args) [] g 0) : Ct d mi e u args g Post := by
  intro l hl
  have hw : mCode mi = Cond.codeWith mi.1 mi.2.1 mi.2.2.1 mi.2.2.2.1 mi.2.2.2.2.2 := by unfold mCode; rw [if_neg hh]
  refine vx_ofWH (ws' := TB) (cc := mi.2.1) (maxL := mi.2.2.1) (ret := mi.2.2.2.1) (hh := mi.2.2.2.2.2) hy (by rw [hw]) ?_
  intro p E s m args' below meth c s₁ B hml hv
  obtain ⟨rfl, hGF, hGH, hW⟩ := hv
  have hts := atoms_spec (ws := mCode mi :: TB) B.pre
  rw [lg_entry_eq]
  have htab : c.exceptionTable.toList = tableOf mi.2.2.2.2.2 := vx_table (x := mi.1) B (by rw [← hw]; exact hts _ List.mem_cons_self)
  exact hJ p l E s m args.toArray below meth c s.heap [] _ ⟨⟨B.exec, B.bytes, hml, findClass_of_methodNamed B.named, fun w hw => hts w (List.mem_cons_of_mem _ hw)⟩, B.notSynchronized, B.returns, htab, (name_of_methodNamed B.named B.method).1, hl, hGF, hGH⟩ hW va_S.rf (lv_entry args hn)
end JE
-- CALLS
theorem jPc_blind {d : DD} {args : List Value} {g : HP} : FrameBlind (jPc d args g) := by
  intro a U g9 mk q
  obtain ⟨h1, h2, h3, h4⟩ := q
  exact ⟨h1, GF.same (s := U) (U := U.calling g9 mk a) rfl h2, GH.moved (s := U) (U := U.calling g9 mk a) (Vm.Alike.refl U.vm) h3, h4⟩
theorem jPc_now {d : DD} {args : List Value} {g : HP} {s : State} {H : Heap} {locs : List Loc} (hGF : GF d s) (hGH : GH d s s.heap) (hW : Wd d g H) (hS : va_S (jA d) s.heap H locs) : ∀ U : State, U.heap = H → s.WarmedH U.vm → jPc d args g args.toArray U :=
  fun U hU hWm => ⟨rfl, GF.warm hWm hGF, by rw [hU]; exact (hGH.kept hS).moved hWm.alike, by rw [hU]; exact hW⟩
section JCALL
variable {d : DD} {p : Program} {l : Launch} {E : Env} {R : Room} {s : State} {m : MethodId} {args : Array Value} {below : List Frame} {meth : Method} {c : Code} {H : Heap} {locs : List Loc} {b u : Nat} {Q : State → Prop}
theorem jcall {pc : Nat} {ls : Array Slot} {st0 rest : List Value} {a : Array Value} {Post : Out → HP → Prop} (hr : vx_Run p l E R s m args below meth c H locs b (12 * b) u (12 * u) (F0 m pc ls st0) rest (jQ d Post a) (jX d Post) (jA d)) (hS : va_S (jA d) s.heap H locs)
    (kx : ∀ (x : Nat) (g : HP) (H1 : Heap) (locs1 : List Loc) (ce : Cell) (q : Addr), x < 3 → Post (.inr x) g → Wd d g H1 → va_S (jA d) s.heap H1 locs1 → H1[q]? = some ce → ce.vm = .none → s.vm.findClass (exN x) = some ce.cls → vx_W p l E R s m args below meth c H1 locs1 (b + u) (12 * (b + u)) Q (F0 m pc ls rest) q)
    (kk : ∀ (v : Option Value) (g : HP) (H1 : Heap) (locs1 : List Loc), Post (.inl v) g → Wd d g H1 → va_S (jA d) s.heap H1 locs1 → W p l E R s m args below meth c H1 locs1 (b + u) (12 * (b + u)) Q (F0 m (pc + 3) ls (v.toList ++ rest))) :
    W p l E R s m args below meth c H locs b (12 * b) Q (F0 m pc ls st0) := by
  intro T hT X
  simp only [Nat.mul_add] at kx kk
  rcases hr T hT X with ⟨v, st₀, t, T', L, h0, X', hL, e1, e2, ⟨v', g', hv, hp, hw, hF⟩, st⟩ | ⟨q, st₀, t, T', L, En, ce, h0, X', hL, e1, e2, ⟨x, g', hx3, hE, hp, hw, hF⟩, hce, hcv, hcl, st⟩
  · cases hv
    obtain ⟨k1, k2, k3⟩ := vx_keep h0 e1 hS (fun _ _ h => h) (fun _ h => h) hL hF
    obtain ⟨t2, a1, b1⟩ := kk v g' T'.heap (locs ++ L) hp (by rw [e1]; exact hw) k3 T' rfl X'
    exact ⟨t2, st t2 a1, b1⟩
  · subst hE
    obtain ⟨k1, k2, k3⟩ := vx_keep h0 e1 hS (fun _ _ h => h) (fun _ h => h) hL hF
    obtain ⟨t2, a1, b1⟩ := kx x g' T'.heap (locs ++ L) ce q hx3 hp (by rw [e1]; exact hw) k3 (by rw [e1]; exact hce) hcv hcl T' rfl X'
    exact ⟨t2, st.trans a1, b1⟩
end JCALL
theorem TB_goodIn : GoodIn TB TB := fun w h => ⟨h, good_of_word (List.all_eq_true.mp TB_good w h)⟩
theorem TB_m {q : Nat × Nat × MInfo × Nat × String × Nat} (h : q ∈ MTL) {w : Cond} (hw : w ∈ mW1 q) : w ∈ TB := List.mem_append_left _ (List.mem_flatMap.mpr ⟨q, h, hw⟩)
theorem NB_m {q : Nat × Nat × MInfo × Nat × String × Nat} (h : q ∈ MTL) {w : Cond} (hw : w ∈ mN1 q) : w ∈ NB := List.mem_append_left _ (List.mem_flatMap.mpr ⟨q, h, hw⟩)
theorem TB_code {w : Cond} (h : w ∈ TB) : GoodIn TB (w :: TB) := by
  intro z hz
  rcases List.mem_cons.mp hz with rfl | hz
  · exact TB_goodIn _ h
  · exact TB_goodIn _ hz
/-- the facts of a row of the method table, as propositions -/
theorem okM_spec {q : Nat × Nat × MInfo × Nat × String × Nat} (h : q ∈ MTL) : q.2.2.1.2.2.1 ≤ 41 ∧ (q.2.2.1.1.cls ≠ "java/lang/invoke/MethodHandle" ∧ q.2.2.1.1.cls ≠ "java/lang/invoke/VarHandle") ∧ (∀ sig, parseMethodDescriptor q.2.2.1.1.desc = some sig → q.2.2.1.2.2.2.2.1 = sig.parameters.length) ∧ (q.2.2.2.1 ≠ 5 → q.2.2.1.2.2.2.2.2 = []) ∧ (q.2.2.2.1 = 5 → q.2.2.1.2.2.2.2.2 ≠ []) ∧ (q.2.2.2.1 = 1 → q.2.2.2.2.2 < 7 ∧ fR q.2.2.2.2.2 = q.2.2.1.1.cls) ∧ ((q.2.2.2.1 = 2 ∨ q.2.2.2.1 = 4) → q.2.2.1.1.name = "<init>" ∧ q.2.2.1.2.2.2.1 = none) := by
  have h1 := List.all_eq_true.mp MTL_ok q h
  unfold okM at h1
  simp only [Bool.and_eq_true, decide_eq_true_eq, beq_iff_eq] at h1
  obtain ⟨⟨⟨⟨⟨⟨a1, a2⟩, a3⟩, a4⟩, a5⟩, a6⟩, a7⟩ := h1
  refine ⟨a1, ⟨a2, a3⟩, fun sig hs => ?_, fun hk => ?_, fun hk => ?_, fun hk => ?_, fun hk => ?_⟩
  · rw [hs] at a4
    simpa using a4.symm
  · rw [decide_eq_false hk] at a5
    have a5 : q.2.2.1.2.2.2.2.2.isEmpty = true := by
      cases hz : q.2.2.1.2.2.2.2.2.isEmpty
      · rw [hz] at a5; cases a5
      · rfl
    exact List.isEmpty_iff.mp a5
  · rw [decide_eq_true hk] at a5
    intro hz
    rw [hz] at a5
    cases a5
  · rw [hk] at a7
    simpa using a7
  · rcases hk with hk | hk <;> · rw [hk] at a7; simpa using a7
section JROWS
variable {d : DD} {mi : MInfo} {R : Room} {Z : List Frame → Array Value → State → State → Prop} {pc : Nat} {L : List (Nat × Value)} {g : HP} {b : Nat}
/-- what a call of mi2, at level e2 and with u2 units, asks of the caller's room -/
def lvOK (R : Room) (b e2 u2 : Nat) : Prop := 6 + e2 + 1 ≤ R.frames ∧ 160 + 60 * e2 ≤ R.locals ∧ b + u2 ≤ R.cells ∧ 12 * (b + u2) ≤ R.slots
theorem CallB_of {s : State} {args : Array Value} {q : Nat × Nat × MInfo × Nat × String × Nat} (hq : q ∈ MTL) (hts : ∀ w ∈ TB, w.before args s = true) {b e2 u2 : Nat} (hR : lvOK R b e2 u2) (hk : q.2.2.2.1 = 0 ∨ q.2.2.2.1 = 1 ∨ q.2.2.2.1 = 2) :
    CallB R s args (fR q.1) q.2.1 q.2.2.1.1 q.2.2.1.2.1 q.2.2.1.2.2.1 q.2.2.1.2.2.2.1 (mCode q.2.2.1 :: TB) (rmOf e2 u2) u2 (12 * u2) q.2.2.1.2.2.2.2.1 := by
  obtain ⟨h1, h2, h3, h4, h5, h6, h7⟩ := okM_spec hq
  have hh : mCode q.2.2.1 = .code q.2.2.1.1 q.2.2.1.2.1 q.2.2.1.2.2.1 q.2.2.1.2.2.2.1 := by
    unfold mCode
    rw [if_pos (h4 (by omega))]
  have hmem : ∀ w ∈ [Cond.methodLink (fR q.1) q.2.1 q.2.2.1.1, .initialized q.2.2.1.1.cls, .code q.2.2.1.1 q.2.2.1.2.1 q.2.2.1.2.2.1 q.2.2.1.2.2.2.1], w ∈ TB := by
    intro w hw
    refine TB_m hq ?_
    unfold mW1
    rcases hk with hk | hk | hk <;> rw [hk] <;> · simp only [List.mem_cons, List.not_mem_nil, or_false] at hw; rcases hw with rfl | rfl | rfl <;> simp
  have hc := hmem (.code q.2.2.1.1 q.2.2.1.2.1 q.2.2.1.2.2.1 q.2.2.1.2.2.2.1) (by simp)
  refine ⟨rfl, rfl, hR.1, ?_, ?_, ?_, hts _ hc, hts _ (hmem _ (by simp)), h2, h3, hts _ (hmem _ (by simp))⟩
  · have := hR.2.1
    show 8 + (q.2.2.1.2.2.1 + 11) + (100 + 60 * e2) ≤ R.locals
    omega
  · rw [hh]; exact pay_in hts (TB_code hc)
  · rw [hh]; exact List.mem_cons_self

theorem J_callS {q : Nat × Nat × MInfo × Nat × String × Nat} (hq : q ∈ MTL) (hk : q.2.2.2.1 = 0) (hown : mi.1.cls = fR q.1) (hd : decode mi.2.1 pc = .ok (.invokestatic q.2.1, 3)) {As rest : List Value} (hn : As.length = q.2.2.1.2.2.2.2.1) (hcat : (rest.map fun v => v.category).sum ≤ 8) {e2 u2 : Nat} (hR : lvOK R b e2 u2) {Post : Out → HP → Prop} (hC : Ct d q.2.2.1 e2 u2 As g Post)
    (kk : ∀ v g2, Post (.inl v) g2 → J d mi R Z (pc + 3) L (v.toList ++ rest) g2 (b + u2)) (kx : ∀ x g2, x < 3 → Post (.inr x) g2 → JT d mi R Z pc L x g2 (b + u2)) : J d mi R Z pc L (As.reverse ++ rest) g b := by
  intro p l E s m args below meth c H locs ls C hW hS hl
  have C0 := C
  obtain ⟨hfix, hlocks, hret, htab, hname, hlt, hGF, hGH⟩ := C
  rw [hown] at hfix
  have hts := hfix.2.2.2.2
  have hst : (Cond.static q.2.2.1.1).before args s = true := hts _ (TB_m hq (by unfold mW1; rw [hk]; simp))
  refine jcall (Post := Post) (vx_runS hfix (hC l hlt) ⟨CallB_of hq hts hR (Or.inl hk), hst⟩ ⟨jPc_blind, jPc_now hGF hGH hW hS⟩ rfl hn hl.1 rfl (by simpa using hcat) hd ⟨hR.2.2.1, by have := hR.2.2.2; rw [Nat.mul_add] at this; exact this⟩) hS ?_ ?_
  · intro x g2 H1 locs1 ce q9 hx3 hp hw hs h1 h2 h3
    exact kx x g2 hx3 hp p l E s m args below meth c H1 locs1 ls rest ce q9 C0 hw hs hl h1 h2 h3
  · intro v g2 H1 locs1 hp hw hs
    exact kk v g2 hp p l E s m args below meth c H1 locs1 ls C0 hw hs hl
theorem J_callV {q : Nat × Nat × MInfo × Nat × String × Nat} (hq : q ∈ MTL) (hk : q.2.2.2.1 = 1) (hown : mi.1.cls = fR q.1) (hd : decode mi.2.1 pc = .ok (.invokevirtual q.2.1, 3)) {a : Nat} {fs As rest : List Value} (ha : g a = some (hO q.2.2.2.2.2 fs)) (hn : As.length = q.2.2.1.2.2.2.2.1) (hcat : (rest.map fun v => v.category).sum ≤ 8) {e2 u2 : Nat} (hR : lvOK R b e2 u2) {Post : Out → HP → Prop} (hC : Ct d q.2.2.1 e2 u2 (.ref a :: As) g Post)
    (kk : ∀ v g2, Post (.inl v) g2 → J d mi R Z (pc + 3) L (v.toList ++ rest) g2 (b + u2)) (kx : ∀ x g2, x < 3 → Post (.inr x) g2 → JT d mi R Z pc L x g2 (b + u2)) : J d mi R Z pc L (As.reverse ++ .ref a :: rest) g b := by
  intro p l E s m args below meth c H locs ls C hW hS hl
  have C0 := C
  obtain ⟨hfix, hlocks, hret, htab, hname, hlt, hGF, hGH⟩ := C
  rw [hown] at hfix
  have hts := hfix.2.2.2.2
  have hin : (Cond.instanceMethod q.2.2.1.1).before args s = true := hts _ (TB_m hq (by unfold mW1; rw [hk]; simp))
  have hse : (Cond.selects q.2.2.1.1.cls q.2.2.1.1 q.2.2.1.1).before args s = true := hts _ (TB_m hq (by unfold mW1; rw [hk]; simp))
  obtain ⟨hci, hfr⟩ := (okM_spec hq).2.2.2.2.2.1 hk
  have hrec : ∃ cell : Cell, H[a]? = some cell ∧ cell.vm.isStatics = false ∧ s.vm.findClass q.2.2.1.1.cls = some cell.cls := by
    obtain ⟨ws, hr, hD, hP⟩ := hW
    obtain ⟨q0, h0⟩ := hr.ix ha
    have := va_recv hGF.1 hP (fR_cl _ hci) h0
    rw [← hfr]
    exact this
  refine jcall (Post := Post) (vx_runV hfix (hC l hlt) ⟨CallB_of hq hts hR (Or.inr (Or.inl hk)), hin, hse⟩ ⟨jPc_blind, hrec, jPc_now hGF hGH hW hS⟩ rfl hn hl.1 rfl (by simpa using hcat) hd ⟨hR.2.2.1, by have := hR.2.2.2; rw [Nat.mul_add] at this; exact this⟩) hS ?_ ?_
  · intro x g2 H1 locs1 ce q9 hx3 hp hw hs h1 h2 h3
    exact kx x g2 hx3 hp p l E s m args below meth c H1 locs1 ls rest ce q9 C0 hw hs hl h1 h2 h3
  · intro v g2 H1 locs1 hp hw hs
    exact kk v g2 hp p l E s m args below meth c H1 locs1 ls C0 hw hs hl
theorem J_callI {q : Nat × Nat × MInfo × Nat × String × Nat} (hq : q ∈ MTL) (hk : q.2.2.2.1 = 2) (hown : mi.1.cls = fR q.1) (hd : decode mi.2.1 pc = .ok (.invokespecial q.2.1, 3)) {a : Nat} {As rest : List Value} (hn : As.length = q.2.2.1.2.2.2.2.1) (hcat : (rest.map fun v => v.category).sum ≤ 8) {e2 u2 : Nat} (hR : lvOK R b e2 u2) {Post : Out → HP → Prop} (hC : Ct d q.2.2.1 e2 u2 (.ref a :: As) g Post)
    (kk : ∀ v g2, Post (.inl v) g2 → J d mi R Z (pc + 3) L (v.toList ++ rest) g2 (b + u2)) (kx : ∀ x g2, x < 3 → Post (.inr x) g2 → JT d mi R Z pc L x g2 (b + u2)) : J d mi R Z pc L (As.reverse ++ .ref a :: rest) g b := by
  intro p l E s m args below meth c H locs ls C hW hS hl
  have C0 := C
  obtain ⟨hfix, hlocks, hret, htab, hname, hlt, hGF, hGH⟩ := C
  rw [hown] at hfix
  have hts := hfix.2.2.2.2
  have hin : (Cond.instanceMethod q.2.2.1.1).before args s = true := hts _ (TB_m hq (by unfold mW1; rw [hk]; simp))
  obtain ⟨hni, hrt⟩ := (okM_spec hq).2.2.2.2.2.2 (Or.inl hk)
  have hCB := CallB_of hq hts hR (Or.inr (Or.inr hk))
  rw [hrt] at hCB
  refine jcall (Post := Post) (vx_runI hfix (hC l hlt) ⟨hCB, hni, hin⟩ ⟨jPc_blind, jPc_now hGF hGH hW hS⟩ rfl hn hl.1 rfl (by simpa using hcat) hd ⟨hR.2.2.1, by have := hR.2.2.2; rw [Nat.mul_add] at this; exact this⟩) hS ?_ ?_
  · intro x g2 H1 locs1 ce q9 hx3 hp hw hs h1 h2 h3
    exact kx x g2 hx3 hp p l E s m args below meth c H1 locs1 ls rest ce q9 C0 hw hs hl h1 h2 h3
  · intro v g2 H1 locs1 hp hw hs
    exact kk v g2 hp p l E s m args below meth c H1 locs1 ls C0 hw hs hl
theorem CN_of {s : State} {args : Array Value} {q : Nat × Nat × MInfo × Nat × String × Nat} (hq : q ∈ MTL) (hts : ∀ w ∈ TB, w.before args s = true) (hNB : ∀ w ∈ NB, va_Nw w s) {b e2 u2 : Nat} (hR : lvOK R b e2 u2) (hk : q.2.2.2.1 = 3 ∨ q.2.2.2.1 = 4) :
    va_CN R s args (fR q.1) q.2.1 q.2.2.1.1 q.2.2.2.2.1 q.2.2.1.2.1 q.2.2.1.2.2.1 q.2.2.1.2.2.2.1 (mCode q.2.2.1 :: TB) (rmOf e2 u2) u2 (12 * u2) q.2.2.1.2.2.2.2.1 := by
  obtain ⟨h1, h2, h3, h4, h5, h6, h7⟩ := okM_spec hq
  have hh : mCode q.2.2.1 = .code q.2.2.1.1 q.2.2.1.2.1 q.2.2.1.2.2.1 q.2.2.1.2.2.2.1 := by
    unfold mCode
    rw [if_pos (h4 (by omega))]
  have hmem : ∀ w ∈ [Cond.initialized q.2.2.1.1.cls, .code q.2.2.1.1 q.2.2.1.2.1 q.2.2.1.2.2.1 q.2.2.1.2.2.2.1], w ∈ TB := by
    intro w hw
    refine TB_m hq ?_
    unfold mW1
    rcases hk with hk | hk <;> rw [hk] <;> · simp only [List.mem_cons, List.not_mem_nil, or_false] at hw; rcases hw with rfl | rfl <;> simp
  have hlk : va_Nw (.methodLinkNest (fR q.1) q.2.1 q.2.2.1.1 q.2.2.2.2.1) s := by
    refine hNB _ (NB_m hq ?_)
    unfold mN1
    rcases hk with hk | hk <;> rw [hk] <;> simp
  have hc := hmem (.code q.2.2.1.1 q.2.2.1.2.1 q.2.2.1.2.2.1 q.2.2.1.2.2.2.1) (by simp)
  refine ⟨⟨rfl, rfl, hR.1, ?_, ?_, ?_⟩, hts _ hc, hts _ (hmem _ (by simp)), h2, h3, va_Nw.use rfl hlk⟩
  · have := hR.2.1
    show 8 + (q.2.2.1.2.2.1 + 11) + (100 + 60 * e2) ≤ R.locals
    omega
  · rw [hh]; exact pay_in hts (TB_code hc)
  · rw [hh]; exact List.mem_cons_self
theorem J_callSN {q : Nat × Nat × MInfo × Nat × String × Nat} (hq : q ∈ MTL) (hk : q.2.2.2.1 = 3) (hown : mi.1.cls = fR q.1) (hd : decode mi.2.1 pc = .ok (.invokestatic q.2.1, 3)) {As rest : List Value} (hn : As.length = q.2.2.1.2.2.2.2.1) (hcat : (rest.map fun v => v.category).sum ≤ 8) {e2 u2 : Nat} (hR : lvOK R b e2 u2) {Post : Out → HP → Prop} (hC : Ct d q.2.2.1 e2 u2 As g Post)
    (kk : ∀ v g2, Post (.inl v) g2 → J d mi R Z (pc + 3) L (v.toList ++ rest) g2 (b + u2)) (kx : ∀ x g2, x < 3 → Post (.inr x) g2 → JT d mi R Z pc L x g2 (b + u2)) : J d mi R Z pc L (As.reverse ++ rest) g b := by
  intro p l E s m args below meth c H locs ls C hW hS hl
  have C0 := C
  obtain ⟨hfix, hlocks, hret, htab, hname, hlt, hGF, hGH⟩ := C
  rw [hown] at hfix
  have hts := hfix.2.2.2.2
  have hst : (Cond.static q.2.2.1.1).before args s = true := hts _ (TB_m hq (by unfold mW1; rw [hk]; simp))
  refine jcall (Post := Post) (vx_runSN hfix (hC l hlt) ⟨CN_of hq hts hGF.2.1 hR (Or.inl hk), hst, trivial⟩ ⟨jPc_blind, jPc_now hGF hGH hW hS⟩ rfl hn hl.1 rfl (by simpa using hcat) hd ⟨hR.2.2.1, by have := hR.2.2.2; rw [Nat.mul_add] at this; exact this⟩) hS ?_ ?_
  · intro x g2 H1 locs1 ce q9 hx3 hp hw hs h1 h2 h3
    exact kx x g2 hx3 hp p l E s m args below meth c H1 locs1 ls rest ce q9 C0 hw hs hl h1 h2 h3
  · intro v g2 H1 locs1 hp hw hs
    exact kk v g2 hp p l E s m args below meth c H1 locs1 ls C0 hw hs hl
theorem J_callIN {q : Nat × Nat × MInfo × Nat × String × Nat} (hq : q ∈ MTL) (hk : q.2.2.2.1 = 4) (hown : mi.1.cls = fR q.1) (hd : decode mi.2.1 pc = .ok (.invokespecial q.2.1, 3)) {a : Nat} {As rest : List Value} (hn : As.length = q.2.2.1.2.2.2.2.1) (hcat : (rest.map fun v => v.category).sum ≤ 8) {e2 u2 : Nat} (hR : lvOK R b e2 u2) {Post : Out → HP → Prop} (hC : Ct d q.2.2.1 e2 u2 (.ref a :: As) g Post)
    (kk : ∀ v g2, Post (.inl v) g2 → J d mi R Z (pc + 3) L (v.toList ++ rest) g2 (b + u2)) (kx : ∀ x g2, x < 3 → Post (.inr x) g2 → JT d mi R Z pc L x g2 (b + u2)) : J d mi R Z pc L (As.reverse ++ .ref a :: rest) g b := by
  intro p l E s m args below meth c H locs ls C hW hS hl
  have C0 := C
  obtain ⟨hfix, hlocks, hret, htab, hname, hlt, hGF, hGH⟩ := C
  rw [hown] at hfix
  have hts := hfix.2.2.2.2
  have hin : (Cond.instanceMethod q.2.2.1.1).before args s = true := hts _ (TB_m hq (by unfold mW1; rw [hk]; simp))
  obtain ⟨hni, hrt⟩ := (okM_spec hq).2.2.2.2.2.2 (Or.inr hk)
  have hCB := CN_of hq hts hGF.2.1 hR (Or.inr hk)
  rw [hrt] at hCB
  refine jcall (Post := Post) (vx_runIN hfix (hC l hlt) ⟨hCB, hni, hin⟩ ⟨jPc_blind, jPc_now hGF hGH hW hS⟩ rfl hn hl.1 rfl (by simpa using hcat) hd ⟨hR.2.2.1, by have := hR.2.2.2; rw [Nat.mul_add] at this; exact this⟩) hS ?_ ?_
  · intro x g2 H1 locs1 ce q9 hx3 hp hw hs h1 h2 h3
    exact kx x g2 hx3 hp p l E s m args below meth c H1 locs1 ls rest ce q9 C0 hw hs hl h1 h2 h3
  · intro v g2 H1 locs1 hp hw hs
    exact kk v g2 hp p l E s m args below meth c H1 locs1 ls C0 hw hs hl
theorem J_callSX {q : Nat × Nat × MInfo × Nat × String × Nat} (hq : q ∈ MTL) (hk : q.2.2.2.1 = 5) (hown : mi.1.cls = fR q.1) (hd : decode mi.2.1 pc = .ok (.invokestatic q.2.1, 3)) {As rest : List Value} (hn : As.length = q.2.2.1.2.2.2.2.1) (hcat : (rest.map fun v => v.category).sum ≤ 8) {e2 u2 : Nat} (hR : lvOK R b e2 u2) {Post : Out → HP → Prop} (hC : Ct d q.2.2.1 e2 u2 As g Post)
    (kk : ∀ v g2, Post (.inl v) g2 → J d mi R Z (pc + 3) L (v.toList ++ rest) g2 (b + u2)) (kx : ∀ x g2, x < 3 → Post (.inr x) g2 → JT d mi R Z pc L x g2 (b + u2)) : J d mi R Z pc L (As.reverse ++ rest) g b := by
  intro p l E s m args below meth c H locs ls C hW hS hl
  have C0 := C
  obtain ⟨hfix, hlocks, hret, htab, hname, hlt, hGF, hGH⟩ := C
  rw [hown] at hfix
  have hts := hfix.2.2.2.2
  obtain ⟨h1, h2, h3, h4, h5, h6, h7⟩ := okM_spec hq
  have hh : mCode q.2.2.1 = .codeWith q.2.2.1.1 q.2.2.1.2.1 q.2.2.1.2.2.1 q.2.2.1.2.2.2.1 q.2.2.1.2.2.2.2.2 := by
    unfold mCode
    rw [if_neg (h5 hk)]
  have hmem : ∀ w ∈ [Cond.methodLink (fR q.1) q.2.1 q.2.2.1.1, .static q.2.2.1.1, .initialized q.2.2.1.1.cls, .codeWith q.2.2.1.1 q.2.2.1.2.1 q.2.2.1.2.2.1 q.2.2.1.2.2.2.1 q.2.2.1.2.2.2.2.2], w ∈ TB := by
    intro w hw
    refine TB_m hq ?_
    unfold mW1
    rw [hk]
    exact hw
  have hc := hmem (.codeWith q.2.2.1.1 q.2.2.1.2.1 q.2.2.1.2.2.1 q.2.2.1.2.2.2.1 q.2.2.1.2.2.2.2.2) (by simp)
  have hcw : vx_CSW R s args (fR q.1) q.2.1 q.2.2.1.1 q.2.2.1.2.1 q.2.2.1.2.2.1 q.2.2.1.2.2.2.1 q.2.2.1.2.2.2.2.2 (mCode q.2.2.1 :: TB) (rmOf e2 u2) u2 (12 * u2) q.2.2.1.2.2.2.2.1 := by
    refine ⟨⟨rfl, rfl, hR.1, ?_, ?_, ?_⟩, hts _ hc, hts _ (hmem _ (by simp)), h2, h3, hts _ (hmem _ (by simp)), hts _ (hmem _ (by simp))⟩
    · have := hR.2.1
      show 8 + (q.2.2.1.2.2.1 + 11) + (100 + 60 * e2) ≤ R.locals
      omega
    · rw [hh]; exact pay_in hts (TB_code hc)
    · rw [hh]; exact List.mem_cons_self
  refine jcall (Post := Post) (vx_runSX hfix (hC l hlt) hcw ⟨jPc_blind, jPc_now hGF hGH hW hS⟩ rfl hn hl.1 rfl (by simpa using hcat) hd ⟨hR.2.2.1, by have := hR.2.2.2; rw [Nat.mul_add] at this; exact this⟩) hS ?_ ?_
  · intro x g2 H1 locs1 ce q9 hx3 hp hw hs h1 h2 h3
    exact kx x g2 hx3 hp p l E s m args below meth c H1 locs1 ls rest ce q9 C0 hw hs hl h1 h2 h3
  · intro v g2 H1 locs1 hp hw hs
    exact kk v g2 hp p l E s m args below meth c H1 locs1 ls C0 hw hs hl
end JROWS
