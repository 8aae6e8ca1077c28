-- THE LAW: its frame (out of the skeleton), its judgement
def R_law : String := "RopeloftLaw"
def lw_P (b : Addr) (xs : List Int32) (args : Array Value) (s : State) : Prop := args = #[.ref b] ∧ s.IntsAt b xs ∧ xs.length ≤ 260 ∧ (Jvm.Cond.and given_1 narrow_1).before args s = true
def lw_Q (_ : Array Value) (s : State) (o : Outcome) (t : State) : Prop := o = .returned (some (.int 1)) ∧ Framed s o t [] 600086 7301442
def lw_Z (below : List Frame) (a : Array Value) (s : State) : State → Prop := fun t => ∃ o, t.status = .running ∧ Ended t below o ∧ lw_Q a s o t
/-- the law's own end, with 1 on the stack, nothing written that was there before, its room as the claim has it -/
theorem lw_ret {p : Program} {l : Launch} {e : Env} {s : State} {m : MethodId} {below : List Frame} {meth : Method} {c : Code} {b : Nat} (hx : p.tables.exec = Jvm.exec) (hb : c.code = code) (hr : meth.sig.returnType = ret) (hlocks : meth.locks = false) {pc : Nat} {H : Heap} {ls : Array Slot} (hdg : decode code pc = .ok (.ireturn, 1)) : W p l e room_1 s m #[Value.ref b] below meth c H [] 600086 7301442 (lw_Z below #[Value.ref b] s) (F0 m pc ls [.int 1]) := by
  intro T hT X
  obtain ⟨fs, hret, hrun, hended, hW, hframe⟩ := X.leave (v := some (.int 1)) (hlocks := hlocks) (fun h => by rw [hr] at h; cases h)
  have hmeth' : T.vm.method? m = some meth := X.method'
  refine ⟨T.setFrames fs, ?_, .returned (some (.int 1)), hrun, hended, rfl, ⟨_, rfl⟩, hW, hframe⟩
  jvm_step X.here [X.here.top, hx, hb, hdg, hmeth', hr, ret, narrow_b1]
  (try refine ⟨rfl, ?_⟩); (try refine ⟨rfl, ?_⟩)
  first | (intro acts; rw [hret _ acts rfl rfl rfl]) | rw [hret _ _ rfl rfl rfl]
  exact Steps.refl _
/-- what holds at the law's entry: the machine, the code, the tables' words (any of lw_tbl by 'hts w (by decide +kernel)'), the script of L ints xs at the cell b, what the Statement gives of the start (any of its parts by flat_of_before) -/
def lw_At (p : Program) (s : State) (m : MethodId) (meth : Method) (c : Code) (b L : Nat) (xs : Nat → Int32) : Prop :=
  p.tables.exec = Jvm.exec ∧ c.code = code ∧ meth.sig.returnType = ret ∧ c.maxLocals = 23 ∧ s.vm.findClass R_law = some m.cls ∧ (∀ w ∈ lw_tbl, w.before #[Value.ref b] s = true) ∧ va_X b L xs s s.heap ∧ b < s.heap.size ∧ meth.locks = false ∧ (Jvm.Cond.and given_1 narrow_1).before #[Value.ref b] s = true
-- what is given of the start, and the end that the walk comes to
def exL (d : DD) (b : Nat) (args : Array Value) (s : State) : Prop := args = #[Value.ref b] ∧ d.2.2.1 = s.heap.size
def ZL (d : DD) (b : Nat) : List Frame → Array Value → State → State → Prop := fun below args s t => exL d b args s → lw_Z below args s t
section C98g
variable {d : DD} {g : HP} {b : Nat} {pc : Nat} {L : List (Nat × Value)} {st : List Value} {bb : Nat}
theorem ret_law : RetOK d mL_law room_1 (ZL d b) 600000 (fun v _ => v = some (.int 1)) := by
  intro pc L g bb hb
  refine ⟨fun v h1 h2 h3 => ?_, fun v h1 h2 => ?_, fun v h1 h2 => ?_, fun h1 h2 => ?_⟩
  · have e1 : v = 1 := by cases h3; rfl
    subst e1
    intro p l E s m args below meth c H locs ls C hW hS hl
    by_cases hx : exL d b args s
    · obtain ⟨ha, hd⟩ := id hx
      obtain ⟨⟨hxx, hbb, hml, hown, hts⟩, hlocks, hret, htab, hname, hlt, hGF, hGH⟩ := C
      subst ha
      have k : W p l E room_1 s m #[Value.ref b] below meth c H locs bb (12 * bb) (lw_Z below #[Value.ref b] s) (F0 m pc ls [.int 1]) := by
        refine va_forget (fun q hq => by have := hS.2.2 q hq; rw [← hd]; exact this) (W.widen (k := 600086) (n := 7301442) (by omega) (by omega) (lw_ret hxx hbb hret hlocks h1))
      exact fun T hT X => by
        obtain ⟨t, a1, a2⟩ := k T hT X
        exact ⟨t, a1, fun _ => a2⟩
    · exact fun T hT X => ⟨_, Steps.refl _, fun h => absurd h hx⟩
  · cases (show (some FieldType.boolean) = some FieldType.long from h2)
  · obtain ⟨q, h3⟩ := h2
    cases (show (some FieldType.boolean) = some (FieldType.object q) from h3)
  · cases (show (some FieldType.boolean) = none from h2)
theorem J_lw (cut : List (Nat × List Nat)) (fu : Nat) (h : wpG d mL_law "law" 23 (some .boolean) 8 cL_law 9 600000 room_1 (ZL d b) (fun v _ => v = some (.int 1)) (fun _ _ => False) (fun _ _ _ _ _ => False) cut fu pc L st g bb) : J d mL_law room_1 (ZL d b) pc L st g bb :=
  wp_sound (own := 8) rfl ⟨Nat.le_of_ble_eq_true rfl, Nat.le_of_ble_eq_true rfl, Nat.le_of_ble_eq_true rfl, Nat.le_of_ble_eq_true rfl⟩ (fun _ _ _ _ _ _ h => h.elim) ret_law (fun _ _ _ _ _ _ _ _ ho => absurd ho (by decide)) fu pc L st g bb h
end C98g
