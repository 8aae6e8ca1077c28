-- THE ABSTRACT HEAP: what lies at an address, or nothing of ours
abbrev HObj : Type := (Nat × vp_A) ⊕ (Nat × List Value)
abbrev HP : Type := Nat → Option HObj
abbrev DD : Type := va_G × (Nat → ClassId) × Nat × (Nat → Nat) × (Nat × Nat × (Nat → Int32))
-- the script: its address, its length, its ints
abbrev scB (d : DD) : Nat := d.2.2.2.2.1
abbrev scN (d : DD) : Nat := d.2.2.2.2.2.1
abbrev scX (d : DD) : Nat → Int32 := d.2.2.2.2.2.2
def hI (t n : Nat) (f : Nat → Int32) : HObj := Sum.inl (t, (n, Sum.inl f))
def hL (n : Nat) (f : Nat → Int64) : HObj := Sum.inl (1, (n, Sum.inr (Sum.inl f)))
def hR (t n : Nat) (f : Nat → Option Nat) : HObj := Sum.inl (t, (n, Sum.inr (Sum.inr (Sum.inr (Sum.inr f)))))
def hO (ci : Nat) (fs : List Value) : HObj := Sum.inr (ci, fs)
def hup (g : HP) (a : Nat) (o : HObj) : HP := fun q => if q = a then some o else g q
theorem hup_s {g : HP} {a : Nat} {o : HObj} : hup g a o a = some o := by simp [hup]
theorem hup_n {g : HP} {a q : Nat} {o : HObj} (h : q ≠ a) : hup g a o q = g q := by simp [hup, h]
def tysOf (d : DD) : List (ClassId × FieldType) := [(d.2.1 0, .int), (d.2.1 1, .boolean), (d.2.1 2, .boolean), (d.2.1 3, .object RX1), (d.2.1 4, .object RX2), (d.2.1 5, .object RX5), (d.2.1 6, .object RX4)]
theorem tysOf_at (d : DD) (t : Nat) (ty : FieldType) (h : aTys[t]? = some ty) : (tysOf d)[t]? = some (d.2.1 t, ty) := by
  match t, h with
  | 0, h => cases h; rfl
  | 1, h => cases h; rfl
  | 2, h => cases h; rfl
  | 3, h => cases h; rfl
  | 4, h => cases h; rfl
  | 5, h => cases h; rfl
  | 6, h => cases h; rfl
  | t + 7, h => simp [aTys] at h
def toE (d : DD) (o : HObj) : va_E := match o with
  | .inl q => .inl (d.2.1 q.1, q.2)
  | .inr q => .inr q
def jA (d : DD) : Nat → Prop := fun q => d.2.2.1 ≤ q
def wRep (d : DD) (g : HP) (ws : va_W) : Prop := (∀ a o, g a = some o → (a, toE d o) ∈ ws) ∧ ∀ q ∈ ws, ∃ o, g q.1 = some o ∧ q.2 = toE d o
def Wd (d : DD) (g : HP) (H : Heap) : Prop := ∃ ws : va_W, wRep d g ws ∧ va_D (jA d) ws ∧ va_P d.1 vwCl ws H
theorem wRep.ix {d : DD} {g : HP} {ws : va_W} (h : wRep d g ws) {a : Nat} {o : HObj} (hg : g a = some o) : ∃ q0 : Nat, ws[q0]? = some (a, toE d o) := by
  obtain ⟨i, hi⟩ := List.getElem?_of_mem (h.1 a o hg)
  exact ⟨i, hi⟩
theorem wRep.set {d : DD} {g : HP} {ws : va_W} (h : wRep d g ws) (hD : va_D (jA d) ws) {a q0 : Nat} {e : va_E} (hq : ws[q0]? = some (a, e)) (o : HObj) : wRep d (hup g a o) (ws.set q0 (a, toE d o)) := by
  have hlt : q0 < ws.length := (List.getElem?_eq_some_iff.mp hq).1
  refine ⟨fun x ox hx => ?_, fun q hm => ?_⟩
  · by_cases hxa : x = a
    · subst hxa
      rw [hup_s] at hx
      cases hx
      exact List.mem_of_getElem? (i := q0) (by simp [List.getElem?_set, hlt])
    · rw [hup_n hxa] at hx
      obtain ⟨i, hi⟩ := List.getElem?_of_mem (h.1 x ox hx)
      have hne : q0 ≠ i := fun he => by
        subst he
        rw [hq] at hi
        cases hi
        exact hxa rfl
      exact List.mem_of_getElem? (i := i) (by rw [List.getElem?_set_ne hne]; exact hi)
  · obtain ⟨i, hi⟩ := List.getElem?_of_mem hm
    by_cases he : q0 = i
    · subst he
      rw [List.getElem?_set_self hlt] at hi
      cases hi
      exact ⟨o, hup_s, rfl⟩
    · rw [List.getElem?_set_ne he] at hi
      obtain ⟨o', h1, h2⟩ := h.2 q (List.mem_of_getElem? hi)
      have hxa : q.1 ≠ a := fun hx => he (hD.1 q0 i _ _ hq hi hx.symm)
      exact ⟨o', by rw [hup_n hxa]; exact h1, h2⟩
theorem wRep.push {d : DD} {g : HP} {ws : va_W} (h : wRep d g ws) {a : Nat} {o : HObj} (hD : va_D (jA d) (ws ++ [(a, toE d o)])) : g a = none ∧ wRep d (hup g a o) (ws ++ [(a, toE d o)]) := by
  have hfr : g a = none := by
    cases hg : g a with
    | none => rfl
    | some x =>
      obtain ⟨i, hi⟩ := h.ix hg
      have hlt : i < ws.length := (List.getElem?_eq_some_iff.mp hi).1
      have := hD.1 i ws.length (a, toE d x) (a, toE d o) (by rw [List.getElem?_append_left hlt]; exact hi) (by simp) rfl
      omega
  refine ⟨hfr, fun x ox hx => ?_, fun q hm => ?_⟩
  · by_cases hxa : x = a
    · subst hxa
      rw [hup_s] at hx
      cases hx
      exact List.mem_append_right _ List.mem_cons_self
    · rw [hup_n hxa] at hx
      exact List.mem_append_left _ (h.1 x ox hx)
  · rcases List.mem_append.mp hm with hm | hm
    · obtain ⟨o', h1, h2⟩ := h.2 q hm
      have hxa : q.1 ≠ a := fun hx => by rw [hx, hfr] at h1; cases h1
      exact ⟨o', by rw [hup_n hxa]; exact h1, h2⟩
    · rw [List.mem_singleton.mp hm]
      exact ⟨o, hup_s, rfl⟩
-- FACTS OF THE TABLES AND OF THE JDK'S STATICS
def NCL : List (String × String) := [(exN 0, exN 1), (exN 0, exN 2), (exN 1, exN 0), (exN 1, exN 2), (exN 2, exN 0), (exN 2, exN 1)]
def GF (d : DD) (U : State) : Prop := va_K d.1 vwCl (tysOf d) U ∧ (∀ w ∈ NB, va_Nw w U) ∧ (∀ q ∈ NCL, va_Nc q.1 q.2 U) ∧ (∀ q ∈ STL, vk_R RX6 q.1 q.2 (d.2.2.2.1 q.1) U) ∧ (va_AO RX1 U ∧ va_AO RX2 U ∧ va_AO RX5 U ∧ va_AO RX4 U)
def GH (d : DD) (U : State) (H : Heap) : Prop := vx_Zq Bundle.tN "UNASSIGNED_STACK" Bundle.steD (jA d) U H ∧ (vx_Zq Bundle.tN "SUPPRESSED_SENTINEL" Bundle.listD (jA d) U H ∧ scB d < d.2.2.1 ∧ va_X (scB d) (scN d) (scX d) U H) ∧ d.2.2.1 ≤ H.size
theorem nw_warm {w : Cond} (hw : nwOK w = true) {s U : State} (hW : s.WarmedH U.vm) (h : va_Nw w s) : va_Nw w U := by
  cases w <;> first | (exact va_Nw.warmC hW h) | (exact va_Nw.warmF hW h) | (exact va_Nw.warmM hW h) | (exact va_Nw.warmD hW h) | (simp [nwOK] at hw)
theorem ao_warm {C : String} {s U : State} (hW : s.WarmedH U.vm) (h : va_AO C s) : va_AO C U := by
  first | exact va_AO.warm hW h | exact va_AO.moved hW.alike h | exact va_AO.moved hW h
theorem GF.warm {d : DD} {s U : State} (hW : s.WarmedH U.vm) (h : GF d s) : GF d U :=
  ⟨va_K.moved hW.alike h.1, fun w hw => nw_warm (List.all_eq_true.mp NB_ok w hw) hW (h.2.1 w hw), fun q hq => va_Nc.moved hW.alike (h.2.2.1 q hq), fun q hq => vk_R.warm hW (h.2.2.2.1 q hq),
    ao_warm hW h.2.2.2.2.1, ao_warm hW h.2.2.2.2.2.1, ao_warm hW h.2.2.2.2.2.2.1, ao_warm hW h.2.2.2.2.2.2.2⟩
theorem GF.same {d : DD} {s U : State} (hv : U.vm = s.vm) (h : GF d s) : GF d U := by
  refine GF.warm ?_ h
  rw [hv]
  exact State.WarmedH.refl s
theorem GH.moved {d : DD} {s U : State} {H : Heap} (hvm : s.vm.Alike U.vm) (h : GH d s H) : GH d U H := ⟨h.1.moved hvm, ⟨h.2.1.1.moved hvm, h.2.1.2.1, h.2.1.2.2.moved hvm⟩, h.2.2⟩
theorem GH.kept {d : DD} {s : State} {H0 H : Heap} {locs : List Loc} (hS : va_S (jA d) H0 H locs) (h : GH d s H0) : GH d s H :=
  ⟨h.1.kept (fun a h1 h2 => hS.2.1 a h1 h2), ⟨h.2.1.1.kept (fun a h1 h2 => hS.2.1 a h1 h2), h.2.1.2.1, h.2.1.2.2.kept (hS.2.1 _ (Nat.lt_of_lt_of_le h.2.1.2.1 h.2.2) (Nat.not_le.mpr h.2.1.2.1))⟩, Nat.le_trans h.2.2 hS.1⟩
-- CONTRACTS
def rmOf (e u : Nat) : Room := { frames := 6 + e, cells := u, slots := 12 * u, locals := 100 + 60 * e }
def mCode (mi : MInfo) : Cond := if mi.2.2.2.2.2 = [] then .code mi.1 mi.2.1 mi.2.2.1 mi.2.2.2.1 else .codeWith mi.1 mi.2.1 mi.2.2.1 mi.2.2.2.1 mi.2.2.2.2.2
abbrev Out : Type := Option Value ⊕ Nat
def jPc (d : DD) (args : List Value) (g : HP) : Array Value → State → Prop := va_Pc args (fun U => GF d U ∧ GH d U U.heap ∧ Wd d g U.heap)
def jQ (d : DD) (Post : Out → HP → Prop) : Array Value → State → Outcome → State → Prop := fun _ st o t => ∃ (v : Option Value) (g : HP), o = .returned v ∧ Post (.inl v) g ∧ Wd d g t.heap ∧ va_F (jA d) st t
def jX (d : DD) (Post : Out → HP → Prop) : String → State → State → Prop := fun E st t => ∃ (x : Nat) (g : HP), x < 3 ∧ E = exN x ∧ Post (.inr x) g ∧ Wd d g t.heap ∧ va_F (jA d) st t
def Ct (d : DD) (mi : MInfo) (e u : Nat) (args : List Value) (g : HP) (Post : Out → HP → Prop) : Prop :=
  ∀ l : Launch, l.stackTraces = false → vx_Met l mi.1 (mCode mi :: TB) (rmOf e u) (jPc d args g) (jQ d Post) (jX d Post) u (12 * u) (jA d)
-- THE JUDGEMENT
def JC (d : DD) (mi : MInfo) (p : Program) (l : Launch) (s : State) (m : MethodId) (args : Array Value) (meth : Method) (c : Code) : Prop :=
  CallFix p m c mi.2.1 mi.2.2.1 s args TB mi.1.cls ∧ meth.locks = false ∧ meth.sig.returnType = mi.2.2.2.1 ∧ c.exceptionTable.toList = tableOf mi.2.2.2.2.2 ∧ meth.name = mi.1.name ∧ l.stackTraces = false ∧ GF d s ∧ GH d s s.heap
def J (d : DD) (mi : MInfo) (R : Room) (Z : List Frame → Array Value → State → State → Prop) (pc : Nat) (L : List (Nat × Value)) (st : List Value) (g : HP) (b : Nat) : Prop :=
  ∀ (p : Program) (l : Launch) (E : Env) (s : State) (m : MethodId) (args : Array Value) (below : List Frame) (meth : Method) (c : Code) (H : Heap) (locs : List Loc) (ls : Array Slot), JC d mi p l s m args meth c → Wd d g H → va_S (jA d) s.heap H locs → lv_has ls mi.2.2.1 L →
    W p l E R s m args below meth c H locs b (12 * b) (Z below args s) (F0 m pc ls st)
/-- an exception on its way in the frame at pc -/
def JT (d : DD) (mi : MInfo) (R : Room) (Z : List Frame → Array Value → State → State → Prop) (pc : Nat) (L : List (Nat × Value)) (x : Nat) (g : HP) (b : Nat) : Prop :=
  ∀ (p : Program) (l : Launch) (E : Env) (s : State) (m : MethodId) (args : Array Value) (below : List Frame) (meth : Method) (c : Code) (H : Heap) (locs : List Loc) (ls : Array Slot) (st : List Value) (ce : Cell) (q : Addr), JC d mi p l s m args meth c → Wd d g H → va_S (jA d) s.heap H locs → lv_has ls mi.2.2.1 L →
    H[q]? = some ce → ce.vm = .none → s.vm.findClass (exN x) = some ce.cls → vx_W p l E R s m args below meth c H locs b (12 * b) (Z below args s) (F0 m pc ls st) q
def jZ (d : DD) (u : Nat) (Post : Out → HP → Prop) : List Frame → Array Value → State → State → Prop := fun below args s => vx_MQ below (jQ d Post) (jX d Post) args s u (12 * u) (jA d)
/-- the values at entry -/
def entL : Nat → List Value → List (Nat × Value)
  | _, [] => []
  | i, v :: r => (i, v) :: entL (i + v.category) r
