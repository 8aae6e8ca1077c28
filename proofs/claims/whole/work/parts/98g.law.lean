-- THE LAW: its frame (out of the skeleton), its judgement
def R_law : String := "RopeloftLaw"
def lw_P (b : Addr) (xs : List Int32) (args : Array Value) (s : State) : Prop := args = #[.ref b] ∧ s.IntsAt b xs ∧ xs.length ≤ 3072 ∧ (Jvm.Cond.and given_1 narrow_1).before args s = true
def lw_Q (_ : Array Value) (s : State) (o : Outcome) (t : State) : Prop := o = .returned (some (.int 1)) ∧ Framed s o t [] 601024 7293034
def lw_Z (below : List Frame) (a : Array Value) (s : State) : State → Prop := fun t => ∃ o, t.status = .running ∧ Ended t below o ∧ lw_Q a s o t
/-- the law's own end, with 1 on the stack, nothing written that was there before, its room as the claim has it -/
theorem lw_ret {p : Program} {l : Launch} {e : Env} {s : State} {m : MethodId} {below : List Frame} {meth : Method} {c : Code} {b : Nat} (hx : p.tables.exec = Jvm.exec) (hb : c.code = code) (hr : meth.sig.returnType = ret) (hlocks : meth.locks = false) {pc : Nat} {H : Heap} {ls : Array Slot} (hdg : decode code pc = .ok (.ireturn, 1)) : W p l e room_1 s m #[Value.ref b] below meth c H [] 601024 7293034 (lw_Z below #[Value.ref b] s) (F0 m pc ls [.int 1]) := by
  intro T hT X
  obtain ⟨fs, hret, hrun, hended, hW, hframe⟩ := X.leave (v := some (.int 1)) (hlocks := hlocks) (fun h => by rw [hr] at h; cases h)
  have hmeth' : T.vm.method? m = some meth := X.method'
  refine ⟨T.setFrames fs, ?_, .returned (some (.int 1)), hrun, hended, rfl, ⟨_, rfl⟩, hW, hframe⟩
  jvm_step X.here [X.here.top, hx, hb, hdg, hmeth', hr, ret, narrow_b1]
  (try refine ⟨rfl, ?_⟩); (try refine ⟨rfl, ?_⟩)
  first | (intro acts; rw [hret _ acts rfl rfl rfl]) | rw [hret _ _ rfl rfl rfl]
  exact Steps.refl _
/-- what holds at the law's entry: the machine, the code, the tables' words (any of lw_tbl by 'hts w (by decide +kernel)'), the script of L ints xs at the cell b, what the Statement gives of the start (any of its parts by flat_of_before) -/
def lw_At (p : Program) (s : State) (m : MethodId) (meth : Method) (c : Code) (b L : Nat) (xs : Nat → Int32) : Prop :=
  p.tables.exec = Jvm.exec ∧ c.code = code ∧ meth.sig.returnType = ret ∧ c.maxLocals = 8 ∧ s.vm.findClass R_law = some m.cls ∧ (∀ w ∈ lw_tbl, w.before #[Value.ref b] s = true) ∧ va_X b L xs s s.heap ∧ b < s.heap.size ∧ meth.locks = false ∧ (Jvm.Cond.and given_1 narrow_1).before #[Value.ref b] s = true
-- what is given of the start, and the end that the walk comes to
def exL (d : DD) (b n : Nat) (xs : Nat → Int32) (args : Array Value) (s : State) : Prop := args = #[Value.ref b] ∧ va_X b n xs s s.heap ∧ b < s.heap.size ∧ d.2.2.1 = s.heap.size
def ZL (d : DD) (b n : Nat) (xs : Nat → Int32) : List Frame → Array Value → State → State → Prop := fun below args s t => exL d b n xs args s → lw_Z below args s t
section C98g
variable {d : DD} {g : HP} {b n : Nat} {xs : Nat → Int32} {pc : Nat} {L : List (Nat × Value)} {st : List Value} {bb : Nat}
theorem ret_law : RetOK d mL_law room_1 (ZL d b n xs) 600000 (fun v _ => v = some (.int 1)) := by
  intro pc L g bb hb
  refine ⟨fun v h1 h2 h3 => ?_, fun v h1 h2 => ?_, fun v h1 h2 => ?_, fun h1 h2 => ?_⟩
  · have e1 : v = 1 := by cases h3; rfl
    subst e1
    intro p l E s m args below meth c H locs ls C hW hS hl
    by_cases hx : exL d b n xs args s
    · obtain ⟨ha, hX, hbs, hd⟩ := id hx
      obtain ⟨⟨hxx, hbb, hml, hown, hts⟩, hlocks, hret, htab, hname, hlt, hGF, hGH⟩ := C
      subst ha
      have k : W p l E room_1 s m #[Value.ref b] below meth c H locs bb (12 * bb) (lw_Z below #[Value.ref b] s) (F0 m pc ls [.int 1]) := by
        refine va_forget (fun q hq => by have := hS.2.2 q hq; rw [← hd]; exact this) (W.widen (k := 601024) (n := 7293034) (by omega) (by omega) (lw_ret hxx hbb hret hlocks h1))
      exact fun T hT X => by
        obtain ⟨t, a1, a2⟩ := k T hT X
        exact ⟨t, a1, fun _ => a2⟩
    · exact fun T hT X => ⟨_, Steps.refl _, fun h => absurd h hx⟩
  · cases (show (some FieldType.boolean) = some FieldType.long from h2)
  · obtain ⟨q, h3⟩ := h2
    cases (show (some FieldType.boolean) = some (FieldType.object q) from h3)
  · cases (show (some FieldType.boolean) = none from h2)
theorem J_lw (cut : List (Nat × List Nat)) (fu : Nat) (h : wpG d mL_law "law" 8 (some .boolean) 8 cL_law 8 600000 room_1 (ZL d b n xs) (fun v _ => v = some (.int 1)) (fun _ _ => False) (fun _ _ _ _ _ => False) cut fu pc L st g bb) : J d mL_law room_1 (ZL d b n xs) pc L st g bb :=
  wp_sound (own := 8) rfl ⟨Nat.le_of_ble_eq_true rfl, Nat.le_of_ble_eq_true rfl, Nat.le_of_ble_eq_true rfl, Nat.le_of_ble_eq_true rfl⟩ (fun _ _ _ _ _ _ h => h.elim) ret_law (fun _ _ _ _ _ _ _ _ ho => absurd ho (by decide)) fu pc L st g bb h
/-- where the start isn't as given nothing is owed -/
theorem J_ex (h : ∀ (p : Program) (l : Launch) (E : Env) (s : State) (m : MethodId) (below : List Frame) (meth : Method) (c : Code) (H : Heap) (locs : List Loc) (ls : Array Slot), exL d b n xs #[Value.ref b] s → JC d mL_law p l s m #[Value.ref b] meth c → Wd d g H → va_S (jA d) s.heap H locs → lv_has ls mL_law.2.2.1 L → W p l E room_1 s m #[Value.ref b] below meth c H locs bb (12 * bb) (ZL d b n xs below #[Value.ref b] s) (F0 m pc ls st)) : J d mL_law room_1 (ZL d b n xs) pc L st g bb := by
  intro p l E s m args below meth c H locs ls C hW hS hl
  by_cases hx : exL d b n xs args s
  · obtain ⟨ha, -⟩ := id hx
    subst ha
    exact h p l E s m below meth c H locs ls hx C hW hS hl
  · exact fun T hT X => ⟨_, Steps.refl _, fun h => absurd h hx⟩
theorem J_rd {k : Nat} {kk : Int} {i : Nat} (d0 : decode cL_law pc = .ok (.aload_n 0, 1)) (d1 : decode cL_law (pc + 1) = .ok (.iload 4, 2)) (d2 : decode cL_law (pc + 3) = .ok (.iconst kk, 1)) (d3 : decode cL_law (pc + 4) = .ok (.iadd, 1)) (d4 : decode cL_law (pc + 5) = .ok (.iaload, 1)) (hk : Int32.ofInt kk = nI k) (h0 : lk L 0 = some (.ref b)) (h4 : lk L 4 = some (.int (nI i))) (hi : i + k < n) (hn : n < 2 ^ 31) (K : J d mL_law room_1 (ZL d b n xs) (pc + 6) L (.int (xs (i + k)) :: st) g bb) : J d mL_law room_1 (ZL d b n xs) pc L st g bb := by
  refine J_ex (fun p l E s m below meth c H locs ls hx C hW hS hl => ?_)
  obtain ⟨-, hX, hbs, hd⟩ := id hx
  obtain ⟨⟨hxx, hbb, hml, hown, hts⟩, -⟩ := id C
  refine lv_aload_n hxx hbb d0 rfl (lv_of hl h0) ?_
  refine lv_iload hxx hbb d1 (lv_of hl h4) ?_
  refine lv_iconst (v := nI k) hxx hbb d2 hk ?_
  refine lv_iadd hxx hbb d3 ?_
  rw [nI_add]
  refine va_sld hxx hbb hX hbs (by show ¬ d.2.2.1 ≤ b; omega) hS (vp_in_nI hi hn) d4 ?_
  rw [nI_clamp (by omega)]
  exact K p l E s m _ below meth c H locs ls C hW hS hl
theorem J_rd0 {i : Nat} (d0 : decode cL_law pc = .ok (.aload_n 0, 1)) (d1 : decode cL_law (pc + 1) = .ok (.iload 4, 2)) (d4 : decode cL_law (pc + 3) = .ok (.iaload, 1)) (h0 : lk L 0 = some (.ref b)) (h4 : lk L 4 = some (.int (nI i))) (hi : i < n) (hn : n < 2 ^ 31) (K : J d mL_law room_1 (ZL d b n xs) (pc + 4) L (.int (xs i) :: st) g bb) : J d mL_law room_1 (ZL d b n xs) pc L st g bb := by
  refine J_ex (fun p l E s m below meth c H locs ls hx C hW hS hl => ?_)
  obtain ⟨-, hX, hbs, hd⟩ := id hx
  obtain ⟨⟨hxx, hbb, hml, hown, hts⟩, -⟩ := id C
  refine lv_aload_n hxx hbb d0 rfl (lv_of hl h0) ?_
  refine lv_iload hxx hbb d1 (lv_of hl h4) ?_
  refine va_sld hxx hbb hX hbs (by show ¬ d.2.2.1 ≤ b; omega) hS (vp_in_nI hi hn) d4 ?_
  rw [nI_clamp (by omega)]
  exact K p l E s m _ below meth c H locs ls C hW hS hl
theorem J_len (d0 : decode cL_law pc = .ok (.aload_n 0, 1)) (d1 : decode cL_law (pc + 1) = .ok (.arraylength, 1)) (h0 : lk L 0 = some (.ref b)) (K : J d mL_law room_1 (ZL d b n xs) (pc + 2) L (.int (nI n) :: st) g bb) : J d mL_law room_1 (ZL d b n xs) pc L st g bb := by
  refine J_ex (fun p l E s m below meth c H locs ls hx C hW hS hl => ?_)
  obtain ⟨-, hX, hbs, hd⟩ := id hx
  obtain ⟨⟨hxx, hbb, hml, hown, hts⟩, -⟩ := id C
  refine lv_aload_n hxx hbb d0 rfl (lv_of hl h0) ?_
  refine va_slen hxx hbb hX hbs (by show ¬ d.2.2.1 ≤ b; omega) hS d1 ?_
  exact K p l E s m _ below meth c H locs ls C hW hS hl
theorem J_bz {v : Int32} (d0 : decode cL_law pc = .ok (.ifCond .eq 7, 3)) (d1 : decode cL_law (pc + 3) = .ok (.iconst 1, 1)) (d2 : decode cL_law (pc + 4) = .ok (.goto 4, 3)) (d3 : decode cL_law (pc + 7) = .ok (.iconst 0, 1)) (K : J d mL_law room_1 (ZL d b n xs) (pc + 8) L (.int (if v = 0 then 0 else 1) :: st) g bb) : J d mL_law room_1 (ZL d b n xs) pc L (.int v :: st) g bb := by
  intro p l E s m args below meth c H locs ls C hW hS hl
  obtain ⟨⟨hxx, hbb, hml, hown, hts⟩, -⟩ := id C
  have k := K p l E s m args below meth c H locs ls C hW hS hl
  refine lv_if_eq (tgt := pc + 7) hxx hbb d0 (by omega) (fun hc => ?_) (fun hc => ?_)
  · rw [if_pos hc] at k
    exact lv_iconst (v := 0) hxx hbb d3 rfl k
  · rw [if_neg hc] at k
    exact lv_iconst (v := 1) hxx hbb d1 rfl (lv_goto (tgt := pc + 8) hxx hbb d2 (by omega) k)
end C98g
theorem lg_cmp_s {x : Int64} : lg_cmp x x = 0 := by
  unfold lg_cmp
  simp
-- both worlds side by side
def LWd (B : Bk) (M : Nat → Nat) (oa : Nat) (S : St) (g : HP) : Prop := Inv S ∧ CW B S g ∧ (∃ r, MW M S r g) ∧ (∃ fo, g oa = some (hL 1 fo)) ∧ ¬ own B S oa ∧ (∀ k, k ≤ 20 → ¬ own B S (M k)) ∧ ∀ k, k ≤ 20 → oa ≠ M k
theorem MW.keep {M : Nat → Nat} {S : St} {r : Int32} {g g2 : HP} (h : MW M S r g) (hk : ∀ k, k ≤ 20 → g2 (M k) = g (M k)) : MW M S r g2 := by
  obtain ⟨c, F, ⟨h1, h2, h3⟩, hR⟩ := h
  exact ⟨c, F, ⟨by rw [hk 0 (by decide)]; exact h1, fun k a b => by rw [hk k b]; exact h2 k a b, h3⟩, hR⟩
theorem MW.al {M : Nat → Nat} {S : St} {r : Int32} {g : HP} (h : MW M S r g) : ∀ k, k ≤ 20 → g (M k) ≠ none := fun k hk => by
  obtain ⟨c, F, ⟨h1, h2, h3⟩, hR⟩ := h
  rcases Nat.eq_zero_or_pos k with e | e
  · rw [e, h1]
    exact Option.some_ne_none _
  · rw [h2 k e hk]
    exact Option.some_ne_none _
theorem MW.obj {M : Nat → Nat} {S : St} {r : Int32} {g : HP} (h : MW M S r g) : ∃ fs, g (M 0) = some (hO 7 fs) := by
  obtain ⟨c, F, ⟨h1, h2, h3⟩, hR⟩ := h
  exact ⟨_, h1⟩
section C98g2
variable {B B2 : Bk} {M : Nat → Nat} {oa : Nat} {S S2 : St} {g g2 g3 : HP}
theorem LW_mid (h : LWd B M oa S g) (hs : StpW oa B S B2 S2 g g2) : ∃ r, MW M S r g2 := by
  obtain ⟨-, -, ⟨r, hM⟩, -, -, hnm, hom⟩ := h
  exact ⟨r, hM.keep (fun k hk => hs.1 (M k) (hM.al k hk) (hnm k hk) (fun e => hom k hk e.symm))⟩
theorem LW_next {r : Int32} {f2 : Nat → Int64} (h : LWd B M oa S g) (hI2 : Inv S2) (hW2 : CW B2 S2 g2) (hs : StpW oa B S B2 S2 g g2) (ho2 : g2 oa = some (hL 1 f2)) (hM3 : MW M S2 r g3) (hf3 : frM M g2 g3) : LWd B2 M oa S2 g3 ∧ g3 oa = some (hL 1 f2) := by
  obtain ⟨-, -, ⟨r0, hM⟩, ⟨fo, ho⟩, hno, hnm, hom⟩ := h
  have hnm2 : ∀ k, k ≤ 20 → ¬ own B2 S2 (M k) := fun k hk h => by
    rcases hs.2 _ h with h | h
    · exact hnm k hk h
    · exact hM.al k hk h
  have ho3 : g3 oa = some (hL 1 f2) := by rw [hf3 oa (fun k hk => hom k hk)]; exact ho2
  refine ⟨⟨hI2, hW2.keep (fun a ha => hf3 a (fun k hk e => hnm2 k hk (by rw [← e]; exact ha))), ⟨r, hM3⟩, ⟨f2, ho3⟩, fun h => ?_, hnm2, hom⟩, ho3⟩
  rcases hs.2 _ h with h | h
  · exact hno h
  · rw [ho] at h
    cases h
end C98g2
set_option maxRecDepth 100000 in
set_option maxHeartbeats 4000000 in
theorem c_X7_thrownW {d : DD} {g : HP} {Post : Out → HP → Prop} {M : Nat → Nat} {r : Int32} {S : St} (hW : MW M S r g) (h : Post (.inl (some (.int (r)))) g) : Ct d mX7_thrown 0 0 [.ref (M 0)] g Post := by
  obtain ⟨c, F, hM, hR⟩ := hW
  exact c_X7_thrown hM h
