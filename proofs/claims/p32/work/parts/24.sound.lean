-- SOUNDNESS OF stepP
theorem xt_facts : ∀ q ∈ XTL, q.2.2 < 3 ∧ Bundle.fit (exN q.2.2) = true ∧ (∀ w ∈ Cond.classLink RX6 q.1 (exN q.2.2) :: Cond.initialized (exN q.2.2) :: vx_atS RX6 q.2.1 (exN q.2.2) exNames, vx_ot w = true) := by decide +kernel
theorem NB_x {q : Nat × Nat × Nat} (h : q ∈ XTL) {w : Cond} (hw : w ∈ (vx_atS RX6 q.2.1 (exN q.2.2) exNames).filter (fun w => !goodWord w)) : w ∈ NB := List.mem_append_right _ (List.mem_append_right _ (List.mem_flatMap.mpr ⟨q, h, hw⟩))
theorem TB_x {q : Nat × Nat × Nat} (h : q ∈ XTL) {w : Cond} (hw : w ∈ [Cond.classLink RX6 q.1 (exN q.2.2), Cond.initialized (exN q.2.2)] ++ (vx_atS RX6 q.2.1 (exN q.2.2) exNames).filter goodWord) : w ∈ TB := TB_r (List.mem_append_left _ (List.mem_flatMap.mpr ⟨q, h, hw⟩))
theorem nw_onT {w : Cond} (h : nwOK w = true) : w.onTables = true := by
  cases w <;> first | rfl | (simp [nwOK] at h)
theorem Wd.keep {d : DD} {g : HP} {H H1 : Heap} (h : Wd d g H) (hk : ∀ q : Nat, q < H.size → H1[q]? = H[q]?) : Wd d g H1 := by
  obtain ⟨ws, h1, h2, h3⟩ := h
  exact ⟨ws, h1, h2, h3.kept (fun k q hq => hk _ (h3 k q hq).lt)⟩
section THR
variable {d : DD} {mi : MInfo} {e u : Nat} {Post : Out → HP → Prop} {pc : Nat} {L : List (Nat × Value)} {g : HP} {b : Nat}
theorem J_throw {ik ic x is : Nat} (hq : (ik, ic, x) ∈ XTL) (hs : stab is = true) (hown : mi.1.cls = RX6) (hh : mi.2.2.2.2.2 = [])
    (d0 : decode mi.2.1 pc = .ok (.new ik, 3)) (d3 : decode mi.2.1 (pc + 3) = .ok (.dup, 1))
    (dd : (decode mi.2.1 (pc + 4) = .ok (.ldc is, 2) ∧ decode mi.2.1 (pc + 6) = .ok (.invokespecial ic, 3) ∧ decode mi.2.1 (pc + 9) = .ok (.athrow, 1)) ∨ (decode mi.2.1 (pc + 4) = .ok (.ldc_w is, 3) ∧ decode mi.2.1 (pc + 7) = .ok (.invokespecial ic, 3) ∧ decode mi.2.1 (pc + 10) = .ok (.athrow, 1)))
    (hb : b + 1 ≤ u) (hp : Post (.inr x) g) : J d mi (rmOf e u) (jZ d u Post) pc L [] g b := by
  intro p l E s m args below meth c H locs ls C hW hS hl
  obtain ⟨⟨hx, hb', hml, hown', hts⟩, hlocks, hret, htab, hname, hlt, hGF, hGH⟩ := C
  rw [hown] at hown'
  obtain ⟨h3, hf, hg⟩ := xt_facts _ hq
  obtain ⟨sq, hsq, hse⟩ : ∃ sq ∈ STL, sq.1 = is := by
    obtain ⟨sq, h1, h2⟩ := List.any_eq_true.mp hs
    exact ⟨sq, h1, by simpa using h2⟩
  have hstr := hGF.2.2.2.1 sq hsq
  rw [hse] at hstr
  have hk := hts _ (TB_x hq (w := Cond.classLink RX6 ik (exN x)) (by simp))
  have hini := hts _ (TB_x hq (w := Cond.initialized (exN x)) (by simp))
  have hat : ∀ w ∈ vx_atS RX6 ic (exN x) exNames, w.before args s = true :=
    vx_hat (B := NB) (fun w hw => hts _ (TB_x hq (List.mem_append_right _ hw))) (fun w hw => NB_x hq hw) (fun w hw => va_Nw.use (nw_onT (List.all_eq_true.mp NB_ok w hw)) (hGF.2.1 w hw))
  have hfin : ∀ t : State, s.vm.Alike t.vm → H.size ≤ t.heap.size → (∀ q : Nat, q < H.size → t.heap[q]? = H[q]?) → jX d Post (exN x) s t := fun t hv hz hk2 =>
    ⟨x, g, h3, rfl, hp, hW.keep hk2, Nat.le_trans hS.1 hz, fun q h1 h2 => (hk2 q (Nat.lt_of_lt_of_le h1 hS.1)).trans (hS.2.1 q h1 h2)⟩
  have hout : ∀ pc9, ∀ z ∈ c.exceptionTable.toList, covers z pc9 = false := by
    intro pc9 z hz
    rw [htab, hh] at hz
    cases hz
  rcases dd with ⟨d4, d6, d9⟩ | ⟨d4, d7, d10⟩
  · exact vx_throwS hx hb' hlt (names := exNames) hown' hf (by decide) hk hini hstr hat hg hGH.1 hGH.2.1.1 hS (hl.1.trans hml.symm) d0 d3 d4 d6 d9 (hout _) (show exNames.length + 3 < 6 + e from by simp only [exNames, List.length_cons, List.length_nil]; omega) (show (([] : List Value).map fun v => v.category).sum + (13 * (exNames.length + 1) + 43) ≤ 100 + 60 * e from by simp only [exNames, List.length_cons, List.length_nil, List.map_nil, List.sum_nil]; omega) (show b + 1 ≤ u from hb) (show 12 * b + 6 ≤ 12 * u from by omega) hlocks hfin hS.2.2 hb (show 12 * b + 6 ≤ 12 * u from by omega)
  · exact vx_throwSW hx hb' hlt (names := exNames) hown' hf (by decide) hk hini hstr hat hg hGH.1 hGH.2.1.1 hS (hl.1.trans hml.symm) d0 d3 d4 d7 d10 (hout _) (show exNames.length + 3 < 6 + e from by simp only [exNames, List.length_cons, List.length_nil]; omega) (show (([] : List Value).map fun v => v.category).sum + (13 * (exNames.length + 1) + 43) ≤ 100 + 60 * e from by simp only [exNames, List.length_cons, List.length_nil, List.map_nil, List.sum_nil]; omega) (show b + 1 ≤ u from hb) (show 12 * b + 6 ≤ 12 * u from by omega) hlocks hfin hS.2.2 hb (show 12 * b + 6 ≤ 12 * u from by omega)
end THR
def RetOK (d : DD) (mi : MInfo) (R : Room) (Z : List Frame → Array Value → State → State → Prop) (U : Nat) (Rt : Option Value → HP → Prop) : Prop := ∀ (pc : Nat) (L : List (Nat × Value)) (g : HP) (b : Nat), b ≤ U →
  (∀ v, decode mi.2.1 pc = .ok (.ireturn, 1) → (∃ ty, mi.2.2.2.1 = some ty ∧ (ty = .int ∨ (ty = .boolean ∧ (v = 0 ∨ v = 1)))) → Rt (some (.int v)) g → J d mi R Z pc L [.int v] g b) ∧
  (∀ v, decode mi.2.1 pc = .ok (.lreturn, 1) → mi.2.2.2.1 = some .long → Rt (some (.long v)) g → J d mi R Z pc L [.long v] g b) ∧
  (∀ v, decode mi.2.1 pc = .ok (.areturn, 1) → (∃ n, mi.2.2.2.1 = some (.object n)) → isRefV v → Rt (some v) g → J d mi R Z pc L [v] g b) ∧
  (decode mi.2.1 pc = .ok (.return_, 1) → mi.2.2.2.1 = none → Rt none g → J d mi R Z pc L [] g b)
def ThOK (d : DD) (mi : MInfo) (own : Nat) (R : Room) (Z : List Frame → Array Value → State → State → Prop) (U : Nat) (Th : Nat → HP → Prop) : Prop := ∀ (pc : Nat) (L : List (Nat × Value)) (g : HP) (b ik ic x is : Nat), own = 6 → (ik, ic, x) ∈ XTL → stab is = true → decode mi.2.1 pc = .ok (.new ik, 3) → decode mi.2.1 (pc + 3) = .ok (.dup, 1) →
  ((decode mi.2.1 (pc + 4) = .ok (.ldc is, 2) ∧ decode mi.2.1 (pc + 6) = .ok (.invokespecial ic, 3) ∧ decode mi.2.1 (pc + 9) = .ok (.athrow, 1)) ∨ (decode mi.2.1 (pc + 4) = .ok (.ldc_w is, 3) ∧ decode mi.2.1 (pc + 7) = .ok (.invokespecial ic, 3) ∧ decode mi.2.1 (pc + 10) = .ok (.athrow, 1))) →
  b + 1 ≤ U → Th x g → J d mi R Z pc L [] g b
theorem RetOK_plain {d : DD} {mi : MInfo} {e U : Nat} {Post : Out → HP → Prop} : RetOK d mi (rmOf e U) (jZ d U Post) U (fun v g => Post (.inl v) g) :=
  fun pc L g b hb => ⟨fun v h1 h2 h3 => J_iret h1 h2 hb h3, fun v h1 h2 h3 => J_lret h1 h2 hb h3, fun v h1 h2 h3 h4 => J_aret h1 h2 h3 hb h4, fun h1 h2 h3 => J_vret h1 h2 hb h3⟩
theorem ThOK_plain {d : DD} {mi : MInfo} {own e U : Nat} {Post : Out → HP → Prop} (hown : mi.1.cls = fR own) (hh : mi.2.2.2.2.2 = []) : ThOK d mi own (rmOf e U) (jZ d U Post) U (fun x g => Post (.inr x) g) :=
  fun pc L g b ik ic x is ho hq hs d0 d3 dd hb hp => J_throw hq hs (by rw [hown, ho]; rfl) hh d0 d3 dd hb hp

section SND
variable {d : DD} {mi : MInfo} {R : Room} {Z : List Frame → Array Value → State → State → Prop} {own e U : Nat} {Rt : Option Value → HP → Prop} {Th : Nat → HP → Prop} {Xc : Nat → List (Nat × Value) → Nat → HP → Nat → Prop}
variable {pc len : Nat} {L : List (Nat × Value)} {st : List Value} {g : HP} {b : Nat} {K : Nat → List (Nat × Value) → List Value → HP → Nat → Prop}
theorem sn_aconst_null  (hK : ∀ pc L st g b, K pc L st g b → J d mi R Z pc L st g b) (hd : decode mi.2.1 pc = .ok (.aconst_null, len)) (h : stepP d mi.1.name mi.2.2.1 mi.2.2.2.1 own mi.2.1 e U Rt Th Xc pc (.aconst_null) len L st g b K) : J d mi R Z pc L st g b := by
  obtain ⟨rfl, h⟩ := h
  intro p l E s m args below meth c H locs ls C hW hS hl
  exact lv_null C.1.1 C.1.2.1 hd (hK _ _ _ _ _ h p l E s m args below meth c H locs ls C hW hS hl)
theorem sn_iconst {n : Int} (hK : ∀ pc L st g b, K pc L st g b → J d mi R Z pc L st g b) (hd : decode mi.2.1 pc = .ok (.iconst n, len)) (h : stepP d mi.1.name mi.2.2.1 mi.2.2.2.1 own mi.2.1 e U Rt Th Xc pc (.iconst n) len L st g b K) : J d mi R Z pc L st g b := by
  obtain ⟨rfl, h⟩ := h
  intro p l E s m args below meth c H locs ls C hW hS hl
  exact lv_iconst C.1.1 C.1.2.1 hd rfl (hK _ _ _ _ _ h p l E s m args below meth c H locs ls C hW hS hl)
theorem sn_bipush {n : Int} (hK : ∀ pc L st g b, K pc L st g b → J d mi R Z pc L st g b) (hd : decode mi.2.1 pc = .ok (.bipush n, len)) (h : stepP d mi.1.name mi.2.2.1 mi.2.2.2.1 own mi.2.1 e U Rt Th Xc pc (.bipush n) len L st g b K) : J d mi R Z pc L st g b := by
  obtain ⟨rfl, h⟩ := h
  intro p l E s m args below meth c H locs ls C hW hS hl
  exact lv_bipush C.1.1 C.1.2.1 hd rfl (hK _ _ _ _ _ h p l E s m args below meth c H locs ls C hW hS hl)
theorem sn_sipush {n : Int} (hK : ∀ pc L st g b, K pc L st g b → J d mi R Z pc L st g b) (hd : decode mi.2.1 pc = .ok (.sipush n, len)) (h : stepP d mi.1.name mi.2.2.1 mi.2.2.2.1 own mi.2.1 e U Rt Th Xc pc (.sipush n) len L st g b K) : J d mi R Z pc L st g b := by
  obtain ⟨rfl, h⟩ := h
  intro p l E s m args below meth c H locs ls C hW hS hl
  exact lv_sipush C.1.1 C.1.2.1 hd rfl (hK _ _ _ _ _ h p l E s m args below meth c H locs ls C hW hS hl)
theorem sn_lconst {n : Fin 2} (hK : ∀ pc L st g b, K pc L st g b → J d mi R Z pc L st g b) (hd : decode mi.2.1 pc = .ok (.lconst n, len)) (h : stepP d mi.1.name mi.2.2.1 mi.2.2.2.1 own mi.2.1 e U Rt Th Xc pc (.lconst n) len L st g b K) : J d mi R Z pc L st g b := by
  obtain ⟨rfl, h⟩ := h
  intro p l E s m args below meth c H locs ls C hW hS hl
  exact lv_lconst C.1.1 C.1.2.1 hd rfl (hK _ _ _ _ _ h p l E s m args below meth c H locs ls C hW hS hl)
theorem sn_ldc {i : Nat} (hK : ∀ pc L st g b, K pc L st g b → J d mi R Z pc L st g b) (hown : mi.1.cls = fR own) (hd : decode mi.2.1 pc = .ok (.ldc i, len)) (h : stepP d mi.1.name mi.2.2.1 mi.2.2.2.1 own mi.2.1 e U Rt Th Xc pc (.ldc i) len L st g b K) : J d mi R Z pc L st g b := by
  obtain ⟨rfl, h⟩ := h
  obtain ⟨v, hv, h9_1⟩ := onOpt_e h
  clear h
  have h := h9_1
  obtain ⟨q, hq, rfl, rfl, rfl⟩ := tab_mem hv
  intro p l E s m args below meth c H locs ls C hW hS hl
  exact lv_ldc C.1.1 C.1.2.1 (by rw [← hown]; exact C.1.2.2.2.1) (C.1.2.2.2.2 _ (TB_k hq)) hd (hK _ _ _ _ _ h p l E s m args below meth c H locs ls C hW hS hl)
theorem sn_ldc2_w {i : Nat} (hK : ∀ pc L st g b, K pc L st g b → J d mi R Z pc L st g b) (hown : mi.1.cls = fR own) (hd : decode mi.2.1 pc = .ok (.ldc2_w i, len)) (h : stepP d mi.1.name mi.2.2.1 mi.2.2.2.1 own mi.2.1 e U Rt Th Xc pc (.ldc2_w i) len L st g b K) : J d mi R Z pc L st g b := by
  obtain ⟨rfl, h⟩ := h
  obtain ⟨v, hv, h9_2⟩ := onOpt_e h
  clear h
  have h := h9_2
  obtain ⟨q, hq, rfl, rfl, rfl⟩ := tab_mem hv
  intro p l E s m args below meth c H locs ls C hW hS hl
  exact lv_ldc2 C.1.1 C.1.2.1 (by rw [← hown]; exact C.1.2.2.2.1) (C.1.2.2.2.2 _ (TB_l hq)) hd (hK _ _ _ _ _ h p l E s m args below meth c H locs ls C hW hS hl)
theorem sn_iload {i : Nat} (hK : ∀ pc L st g b, K pc L st g b → J d mi R Z pc L st g b) (hd : decode mi.2.1 pc = .ok (.iload i, len)) (h : stepP d mi.1.name mi.2.2.1 mi.2.2.2.1 own mi.2.1 e U Rt Th Xc pc (.iload i) len L st g b K) : J d mi R Z pc L st g b := by
  obtain ⟨rfl, h⟩ := h
  obtain ⟨v, hv, h9_3⟩ := onOpt_e h
  clear h
  have h := h9_3
  obtain ⟨x, e9_4_1, h9_4⟩ := onInt_e h
  clear h
  subst e9_4_1
  have h := h9_4
  intro p l E s m args below meth c H locs ls C hW hS hl
  exact lv_iload C.1.1 C.1.2.1 hd (lv_of hl hv) (hK _ _ _ _ _ h p l E s m args below meth c H locs ls C hW hS hl)
theorem sn_iload_n {i : Fin 4} (hK : ∀ pc L st g b, K pc L st g b → J d mi R Z pc L st g b) (hd : decode mi.2.1 pc = .ok (.iload_n i, len)) (h : stepP d mi.1.name mi.2.2.1 mi.2.2.2.1 own mi.2.1 e U Rt Th Xc pc (.iload_n i) len L st g b K) : J d mi R Z pc L st g b := by
  obtain ⟨rfl, h⟩ := h
  obtain ⟨v, hv, h9_5⟩ := onOpt_e h
  clear h
  have h := h9_5
  obtain ⟨x, e9_6_1, h9_6⟩ := onInt_e h
  clear h
  subst e9_6_1
  have h := h9_6
  intro p l E s m args below meth c H locs ls C hW hS hl
  exact lv_iload_n C.1.1 C.1.2.1 hd rfl (lv_of hl hv) (hK _ _ _ _ _ h p l E s m args below meth c H locs ls C hW hS hl)
theorem sn_lload {i : Nat} (hK : ∀ pc L st g b, K pc L st g b → J d mi R Z pc L st g b) (hd : decode mi.2.1 pc = .ok (.lload i, len)) (h : stepP d mi.1.name mi.2.2.1 mi.2.2.2.1 own mi.2.1 e U Rt Th Xc pc (.lload i) len L st g b K) : J d mi R Z pc L st g b := by
  obtain ⟨rfl, h⟩ := h
  obtain ⟨v, hv, h9_7⟩ := onOpt_e h
  clear h
  have h := h9_7
  obtain ⟨x, e9_8_1, h9_8⟩ := onLong_e h
  clear h
  subst e9_8_1
  have h := h9_8
  intro p l E s m args below meth c H locs ls C hW hS hl
  exact lv_lload C.1.1 C.1.2.1 hd (lv_of hl hv) (hK _ _ _ _ _ h p l E s m args below meth c H locs ls C hW hS hl)
theorem sn_lload_n {i : Fin 4} (hK : ∀ pc L st g b, K pc L st g b → J d mi R Z pc L st g b) (hd : decode mi.2.1 pc = .ok (.lload_n i, len)) (h : stepP d mi.1.name mi.2.2.1 mi.2.2.2.1 own mi.2.1 e U Rt Th Xc pc (.lload_n i) len L st g b K) : J d mi R Z pc L st g b := by
  obtain ⟨rfl, h⟩ := h
  obtain ⟨v, hv, h9_9⟩ := onOpt_e h
  clear h
  have h := h9_9
  obtain ⟨x, e9_10_1, h9_10⟩ := onLong_e h
  clear h
  subst e9_10_1
  have h := h9_10
  intro p l E s m args below meth c H locs ls C hW hS hl
  exact lv_lload_n C.1.1 C.1.2.1 hd rfl (lv_of hl hv) (hK _ _ _ _ _ h p l E s m args below meth c H locs ls C hW hS hl)
theorem sn_aload {i : Nat} (hK : ∀ pc L st g b, K pc L st g b → J d mi R Z pc L st g b) (hd : decode mi.2.1 pc = .ok (.aload i, len)) (h : stepP d mi.1.name mi.2.2.1 mi.2.2.2.1 own mi.2.1 e U Rt Th Xc pc (.aload i) len L st g b K) : J d mi R Z pc L st g b := by
  obtain ⟨rfl, h⟩ := h
  obtain ⟨v, hv, hr, h9_11⟩ := onOpt_e h
  clear h
  have h := h9_11
  rcases hr with rfl | ⟨a, rfl⟩
  · intro p l E s m args below meth c H locs ls C hW hS hl
    exact lv_aloadN C.1.1 C.1.2.1 hd (lv_of hl hv) (hK _ _ _ _ _ h p l E s m args below meth c H locs ls C hW hS hl)
  · intro p l E s m args below meth c H locs ls C hW hS hl
    exact lv_aload C.1.1 C.1.2.1 hd (lv_of hl hv) (hK _ _ _ _ _ h p l E s m args below meth c H locs ls C hW hS hl)
theorem sn_aload_n {i : Fin 4} (hK : ∀ pc L st g b, K pc L st g b → J d mi R Z pc L st g b) (hd : decode mi.2.1 pc = .ok (.aload_n i, len)) (h : stepP d mi.1.name mi.2.2.1 mi.2.2.2.1 own mi.2.1 e U Rt Th Xc pc (.aload_n i) len L st g b K) : J d mi R Z pc L st g b := by
  obtain ⟨rfl, h⟩ := h
  obtain ⟨v, hv, hr, h9_12⟩ := onOpt_e h
  clear h
  have h := h9_12
  rcases hr with rfl | ⟨a, rfl⟩
  · intro p l E s m args below meth c H locs ls C hW hS hl
    exact lv_aload_nN C.1.1 C.1.2.1 hd rfl (lv_of hl hv) (hK _ _ _ _ _ h p l E s m args below meth c H locs ls C hW hS hl)
  · intro p l E s m args below meth c H locs ls C hW hS hl
    exact lv_aload_n C.1.1 C.1.2.1 hd rfl (lv_of hl hv) (hK _ _ _ _ _ h p l E s m args below meth c H locs ls C hW hS hl)
theorem sn_istore {i : Nat} (hK : ∀ pc L st g b, K pc L st g b → J d mi R Z pc L st g b) (hd : decode mi.2.1 pc = .ok (.istore i, len)) (h : stepP d mi.1.name mi.2.2.1 mi.2.2.2.1 own mi.2.1 e U Rt Th Xc pc (.istore i) len L st g b K) : J d mi R Z pc L st g b := by
  obtain ⟨rfl, hi, h⟩ := h
  obtain ⟨x, r, e9_13_2, h9_13⟩ := p1i_e h
  clear h
  subst e9_13_2
  have h := h9_13
  rw [rm1_eq] at h
  intro p l E s m args below meth c H locs ls C hW hS hl
  exact lv_istore C.1.1 C.1.2.1 hd hl hi rfl (fun ls hl => hK _ _ _ _ _ h p l E s m args below meth c H locs ls C hW hS hl)
theorem sn_istore_n {i : Fin 4} (hK : ∀ pc L st g b, K pc L st g b → J d mi R Z pc L st g b) (hd : decode mi.2.1 pc = .ok (.istore_n i, len)) (h : stepP d mi.1.name mi.2.2.1 mi.2.2.2.1 own mi.2.1 e U Rt Th Xc pc (.istore_n i) len L st g b K) : J d mi R Z pc L st g b := by
  obtain ⟨rfl, hi, h⟩ := h
  obtain ⟨x, r, e9_14_2, h9_14⟩ := p1i_e h
  clear h
  subst e9_14_2
  have h := h9_14
  rw [rm1_eq] at h
  intro p l E s m args below meth c H locs ls C hW hS hl
  exact lv_istore_n C.1.1 C.1.2.1 hd rfl hl hi rfl (fun ls hl => hK _ _ _ _ _ h p l E s m args below meth c H locs ls C hW hS hl)
theorem sn_lstore {i : Nat} (hK : ∀ pc L st g b, K pc L st g b → J d mi R Z pc L st g b) (hd : decode mi.2.1 pc = .ok (.lstore i, len)) (h : stepP d mi.1.name mi.2.2.1 mi.2.2.2.1 own mi.2.1 e U Rt Th Xc pc (.lstore i) len L st g b K) : J d mi R Z pc L st g b := by
  obtain ⟨rfl, hi, h⟩ := h
  obtain ⟨x, r, e9_15_2, h9_15⟩ := p1l_e h
  clear h
  subst e9_15_2
  have h := h9_15
  rw [rm2_eq] at h
  intro p l E s m args below meth c H locs ls C hW hS hl
  exact lv_lstore C.1.1 C.1.2.1 hd hl hi rfl (fun ls hl => hK _ _ _ _ _ h p l E s m args below meth c H locs ls C hW hS hl)
theorem sn_lstore_n {i : Fin 4} (hK : ∀ pc L st g b, K pc L st g b → J d mi R Z pc L st g b) (hd : decode mi.2.1 pc = .ok (.lstore_n i, len)) (h : stepP d mi.1.name mi.2.2.1 mi.2.2.2.1 own mi.2.1 e U Rt Th Xc pc (.lstore_n i) len L st g b K) : J d mi R Z pc L st g b := by
  obtain ⟨rfl, hi, h⟩ := h
  obtain ⟨x, r, e9_16_2, h9_16⟩ := p1l_e h
  clear h
  subst e9_16_2
  have h := h9_16
  rw [rm2_eq] at h
  intro p l E s m args below meth c H locs ls C hW hS hl
  exact lv_lstore_n C.1.1 C.1.2.1 hd rfl hl hi rfl (fun ls hl => hK _ _ _ _ _ h p l E s m args below meth c H locs ls C hW hS hl)
theorem sn_astore {i : Nat} (hK : ∀ pc L st g b, K pc L st g b → J d mi R Z pc L st g b) (hd : decode mi.2.1 pc = .ok (.astore i, len)) (h : stepP d mi.1.name mi.2.2.1 mi.2.2.2.1 own mi.2.1 e U Rt Th Xc pc (.astore i) len L st g b K) : J d mi R Z pc L st g b := by
  obtain ⟨rfl, hi, h⟩ := h
  obtain ⟨v, r, e9_17_2, hr, h9_17⟩ := p1v_e h
  clear h
  subst e9_17_2
  have h := h9_17
  rw [rm1_eq] at h
  rcases hr with rfl | ⟨a, rfl⟩
  · intro p l E s m args below meth c H locs ls C hW hS hl
    exact lv_astoreN C.1.1 C.1.2.1 hd hl hi rfl (fun ls hl => hK _ _ _ _ _ h p l E s m args below meth c H locs ls C hW hS hl)
  · intro p l E s m args below meth c H locs ls C hW hS hl
    exact lv_astore C.1.1 C.1.2.1 hd hl hi rfl (fun ls hl => hK _ _ _ _ _ h p l E s m args below meth c H locs ls C hW hS hl)
theorem sn_astore_n {i : Fin 4} (hK : ∀ pc L st g b, K pc L st g b → J d mi R Z pc L st g b) (hd : decode mi.2.1 pc = .ok (.astore_n i, len)) (h : stepP d mi.1.name mi.2.2.1 mi.2.2.2.1 own mi.2.1 e U Rt Th Xc pc (.astore_n i) len L st g b K) : J d mi R Z pc L st g b := by
  obtain ⟨rfl, hi, h⟩ := h
  obtain ⟨v, r, e9_18_2, hr, h9_18⟩ := p1v_e h
  clear h
  subst e9_18_2
  have h := h9_18
  rw [rm1_eq] at h
  rcases hr with rfl | ⟨a, rfl⟩
  · intro p l E s m args below meth c H locs ls C hW hS hl
    exact lv_astore_nN C.1.1 C.1.2.1 hd rfl hl hi rfl (fun ls hl => hK _ _ _ _ _ h p l E s m args below meth c H locs ls C hW hS hl)
  · intro p l E s m args below meth c H locs ls C hW hS hl
    exact lv_astore_n C.1.1 C.1.2.1 hd rfl hl hi rfl (fun ls hl => hK _ _ _ _ _ h p l E s m args below meth c H locs ls C hW hS hl)
theorem sn_iinc {i : Nat} {n : Int} (hK : ∀ pc L st g b, K pc L st g b → J d mi R Z pc L st g b) (hd : decode mi.2.1 pc = .ok (.iinc i n, len)) (h : stepP d mi.1.name mi.2.2.1 mi.2.2.2.1 own mi.2.1 e U Rt Th Xc pc (.iinc i n) len L st g b K) : J d mi R Z pc L st g b := by
  obtain ⟨rfl, hi, h⟩ := h
  obtain ⟨v, hv, h9_19⟩ := onOpt_e h
  clear h
  have h := h9_19
  obtain ⟨x, e9_20_1, h9_20⟩ := onInt_e h
  clear h
  subst e9_20_1
  have h := h9_20
  rw [rm1_eq] at h
  obtain ⟨k, hk⟩ := List.getElem?_of_mem (lk_mem hv)
  intro p l E s m args below meth c H locs ls C hW hS hl
  exact lv_iinc C.1.1 C.1.2.1 hd hl hk rfl hi rfl (fun ls hl => hK _ _ _ _ _ h p l E s m args below meth c H locs ls C hW hS hl)
theorem sn_pop  (hK : ∀ pc L st g b, K pc L st g b → J d mi R Z pc L st g b) (hd : decode mi.2.1 pc = .ok (.pop, len)) (h : stepP d mi.1.name mi.2.2.1 mi.2.2.2.1 own mi.2.1 e U Rt Th Xc pc (.pop) len L st g b K) : J d mi R Z pc L st g b := by
  obtain ⟨rfl, h⟩ := h
  obtain ⟨v, r, e9_21_2, hc, h9_21⟩ := p1v_e h
  clear h
  subst e9_21_2
  have h := h9_21
  intro p l E s m args below meth c H locs ls C hW hS hl
  exact lv_pop C.1.1 C.1.2.1 hd hc (hK _ _ _ _ _ h p l E s m args below meth c H locs ls C hW hS hl)
theorem sn_dup  (hK : ∀ pc L st g b, K pc L st g b → J d mi R Z pc L st g b) (hd : decode mi.2.1 pc = .ok (.dup, len)) (h : stepP d mi.1.name mi.2.2.1 mi.2.2.2.1 own mi.2.1 e U Rt Th Xc pc (.dup) len L st g b K) : J d mi R Z pc L st g b := by
  obtain ⟨rfl, h⟩ := h
  obtain ⟨v, r, e9_22_2, hc, h9_22⟩ := p1v_e h
  clear h
  subst e9_22_2
  have h := h9_22
  intro p l E s m args below meth c H locs ls C hW hS hl
  exact lv_dup C.1.1 C.1.2.1 hd hc (hK _ _ _ _ _ h p l E s m args below meth c H locs ls C hW hS hl)
theorem sn_dup2  (hK : ∀ pc L st g b, K pc L st g b → J d mi R Z pc L st g b) (hd : decode mi.2.1 pc = .ok (.dup2, len)) (h : stepP d mi.1.name mi.2.2.1 mi.2.2.2.1 own mi.2.1 e U Rt Th Xc pc (.dup2) len L st g b K) : J d mi R Z pc L st g b := by
  obtain ⟨rfl, h⟩ := h
  obtain ⟨v, r0, e9_23_2, h9_23⟩ := p1v_e h
  clear h
  subst e9_23_2
  have h := h9_23
  obtain ⟨w, r, e9_24_2, hc, hc2, h9_24⟩ := p1v_e h
  clear h
  subst e9_24_2
  have h := h9_24
  intro p l E s m args below meth c H locs ls C hW hS hl
  exact lv_dup2_11 C.1.1 C.1.2.1 hd hc hc2 (hK _ _ _ _ _ h p l E s m args below meth c H locs ls C hW hS hl)
theorem sn_iadd  (hK : ∀ pc L st g b, K pc L st g b → J d mi R Z pc L st g b) (hd : decode mi.2.1 pc = .ok (.iadd, len)) (h : stepP d mi.1.name mi.2.2.1 mi.2.2.2.1 own mi.2.1 e U Rt Th Xc pc (.iadd) len L st g b K) : J d mi R Z pc L st g b := by
  obtain ⟨rfl, h⟩ := h
  obtain ⟨x, y, r, e9_25_3, h9_25⟩ := p2i_e h
  clear h
  subst e9_25_3
  have h := h9_25
  intro p l E s m args below meth c H locs ls C hW hS hl
  exact lv_iadd C.1.1 C.1.2.1 hd (hK _ _ _ _ _ h p l E s m args below meth c H locs ls C hW hS hl)
theorem sn_isub  (hK : ∀ pc L st g b, K pc L st g b → J d mi R Z pc L st g b) (hd : decode mi.2.1 pc = .ok (.isub, len)) (h : stepP d mi.1.name mi.2.2.1 mi.2.2.2.1 own mi.2.1 e U Rt Th Xc pc (.isub) len L st g b K) : J d mi R Z pc L st g b := by
  obtain ⟨rfl, h⟩ := h
  obtain ⟨x, y, r, e9_26_3, h9_26⟩ := p2i_e h
  clear h
  subst e9_26_3
  have h := h9_26
  intro p l E s m args below meth c H locs ls C hW hS hl
  exact lv_isub C.1.1 C.1.2.1 hd (hK _ _ _ _ _ h p l E s m args below meth c H locs ls C hW hS hl)
theorem sn_imul  (hK : ∀ pc L st g b, K pc L st g b → J d mi R Z pc L st g b) (hd : decode mi.2.1 pc = .ok (.imul, len)) (h : stepP d mi.1.name mi.2.2.1 mi.2.2.2.1 own mi.2.1 e U Rt Th Xc pc (.imul) len L st g b K) : J d mi R Z pc L st g b := by
  obtain ⟨rfl, h⟩ := h
  obtain ⟨x, y, r, e9_27_3, h9_27⟩ := p2i_e h
  clear h
  subst e9_27_3
  have h := h9_27
  intro p l E s m args below meth c H locs ls C hW hS hl
  exact lv_imul C.1.1 C.1.2.1 hd (hK _ _ _ _ _ h p l E s m args below meth c H locs ls C hW hS hl)
theorem sn_iand  (hK : ∀ pc L st g b, K pc L st g b → J d mi R Z pc L st g b) (hd : decode mi.2.1 pc = .ok (.iand, len)) (h : stepP d mi.1.name mi.2.2.1 mi.2.2.2.1 own mi.2.1 e U Rt Th Xc pc (.iand) len L st g b K) : J d mi R Z pc L st g b := by
  obtain ⟨rfl, h⟩ := h
  obtain ⟨x, y, r, e9_28_3, h9_28⟩ := p2i_e h
  clear h
  subst e9_28_3
  have h := h9_28
  intro p l E s m args below meth c H locs ls C hW hS hl
  exact lv_iand C.1.1 C.1.2.1 hd (hK _ _ _ _ _ h p l E s m args below meth c H locs ls C hW hS hl)
theorem sn_ixor  (hK : ∀ pc L st g b, K pc L st g b → J d mi R Z pc L st g b) (hd : decode mi.2.1 pc = .ok (.ixor, len)) (h : stepP d mi.1.name mi.2.2.1 mi.2.2.2.1 own mi.2.1 e U Rt Th Xc pc (.ixor) len L st g b K) : J d mi R Z pc L st g b := by
  obtain ⟨rfl, h⟩ := h
  obtain ⟨x, y, r, e9_29_3, h9_29⟩ := p2i_e h
  clear h
  subst e9_29_3
  have h := h9_29
  intro p l E s m args below meth c H locs ls C hW hS hl
  exact lv_ixor C.1.1 C.1.2.1 hd (hK _ _ _ _ _ h p l E s m args below meth c H locs ls C hW hS hl)
theorem sn_ior  (hK : ∀ pc L st g b, K pc L st g b → J d mi R Z pc L st g b) (hd : decode mi.2.1 pc = .ok (.ior, len)) (h : stepP d mi.1.name mi.2.2.1 mi.2.2.2.1 own mi.2.1 e U Rt Th Xc pc (.ior) len L st g b K) : J d mi R Z pc L st g b := by
  obtain ⟨rfl, h⟩ := h
  obtain ⟨x, y, r, e9_30_3, h9_30⟩ := p2i_e h
  clear h
  subst e9_30_3
  have h := h9_30
  intro p l E s m args below meth c H locs ls C hW hS hl
  exact lv_ior C.1.1 C.1.2.1 hd (hK _ _ _ _ _ h p l E s m args below meth c H locs ls C hW hS hl)
theorem sn_ishl  (hK : ∀ pc L st g b, K pc L st g b → J d mi R Z pc L st g b) (hd : decode mi.2.1 pc = .ok (.ishl, len)) (h : stepP d mi.1.name mi.2.2.1 mi.2.2.2.1 own mi.2.1 e U Rt Th Xc pc (.ishl) len L st g b K) : J d mi R Z pc L st g b := by
  obtain ⟨rfl, h⟩ := h
  obtain ⟨x, y, r, e9_31_3, h9_31⟩ := p2i_e h
  clear h
  subst e9_31_3
  have h := h9_31
  intro p l E s m args below meth c H locs ls C hW hS hl
  exact lv_ishl C.1.1 C.1.2.1 hd (hK _ _ _ _ _ h p l E s m args below meth c H locs ls C hW hS hl)
theorem sn_idiv  (hK : ∀ pc L st g b, K pc L st g b → J d mi R Z pc L st g b) (hd : decode mi.2.1 pc = .ok (.idiv, len)) (h : stepP d mi.1.name mi.2.2.1 mi.2.2.2.1 own mi.2.1 e U Rt Th Xc pc (.idiv) len L st g b K) : J d mi R Z pc L st g b := by
  obtain ⟨rfl, h⟩ := h
  obtain ⟨x, y, r, e9_32_3, hy, h9_32⟩ := p2i_e h
  clear h
  subst e9_32_3
  have h := h9_32
  intro p l E s m args below meth c H locs ls C hW hS hl
  exact lv_idiv C.1.1 C.1.2.1 hd hy (hK _ _ _ _ _ h p l E s m args below meth c H locs ls C hW hS hl)
theorem sn_irem  (hK : ∀ pc L st g b, K pc L st g b → J d mi R Z pc L st g b) (hd : decode mi.2.1 pc = .ok (.irem, len)) (h : stepP d mi.1.name mi.2.2.1 mi.2.2.2.1 own mi.2.1 e U Rt Th Xc pc (.irem) len L st g b K) : J d mi R Z pc L st g b := by
  obtain ⟨rfl, h⟩ := h
  obtain ⟨x, y, r, e9_33_3, hy, h9_33⟩ := p2i_e h
  clear h
  subst e9_33_3
  have h := h9_33
  intro p l E s m args below meth c H locs ls C hW hS hl
  exact lv_irem C.1.1 C.1.2.1 hd hy (hK _ _ _ _ _ h p l E s m args below meth c H locs ls C hW hS hl)
theorem sn_ineg  (hK : ∀ pc L st g b, K pc L st g b → J d mi R Z pc L st g b) (hd : decode mi.2.1 pc = .ok (.ineg, len)) (h : stepP d mi.1.name mi.2.2.1 mi.2.2.2.1 own mi.2.1 e U Rt Th Xc pc (.ineg) len L st g b K) : J d mi R Z pc L st g b := by
  obtain ⟨rfl, h⟩ := h
  obtain ⟨x, r, e9_34_2, h9_34⟩ := p1i_e h
  clear h
  subst e9_34_2
  have h := h9_34
  intro p l E s m args below meth c H locs ls C hW hS hl
  exact lv_ineg C.1.1 C.1.2.1 hd (hK _ _ _ _ _ h p l E s m args below meth c H locs ls C hW hS hl)
theorem sn_ladd  (hK : ∀ pc L st g b, K pc L st g b → J d mi R Z pc L st g b) (hd : decode mi.2.1 pc = .ok (.ladd, len)) (h : stepP d mi.1.name mi.2.2.1 mi.2.2.2.1 own mi.2.1 e U Rt Th Xc pc (.ladd) len L st g b K) : J d mi R Z pc L st g b := by
  obtain ⟨rfl, h⟩ := h
  obtain ⟨x, y, r, e9_35_3, h9_35⟩ := p2l_e h
  clear h
  subst e9_35_3
  have h := h9_35
  intro p l E s m args below meth c H locs ls C hW hS hl
  exact lv_ladd C.1.1 C.1.2.1 hd (hK _ _ _ _ _ h p l E s m args below meth c H locs ls C hW hS hl)
theorem sn_lsub  (hK : ∀ pc L st g b, K pc L st g b → J d mi R Z pc L st g b) (hd : decode mi.2.1 pc = .ok (.lsub, len)) (h : stepP d mi.1.name mi.2.2.1 mi.2.2.2.1 own mi.2.1 e U Rt Th Xc pc (.lsub) len L st g b K) : J d mi R Z pc L st g b := by
  obtain ⟨rfl, h⟩ := h
  obtain ⟨x, y, r, e9_36_3, h9_36⟩ := p2l_e h
  clear h
  subst e9_36_3
  have h := h9_36
  intro p l E s m args below meth c H locs ls C hW hS hl
  exact lv_lsub C.1.1 C.1.2.1 hd (hK _ _ _ _ _ h p l E s m args below meth c H locs ls C hW hS hl)
theorem sn_lmul  (hK : ∀ pc L st g b, K pc L st g b → J d mi R Z pc L st g b) (hd : decode mi.2.1 pc = .ok (.lmul, len)) (h : stepP d mi.1.name mi.2.2.1 mi.2.2.2.1 own mi.2.1 e U Rt Th Xc pc (.lmul) len L st g b K) : J d mi R Z pc L st g b := by
  obtain ⟨rfl, h⟩ := h
  obtain ⟨x, y, r, e9_37_3, h9_37⟩ := p2l_e h
  clear h
  subst e9_37_3
  have h := h9_37
  intro p l E s m args below meth c H locs ls C hW hS hl
  exact lv_lmul C.1.1 C.1.2.1 hd (hK _ _ _ _ _ h p l E s m args below meth c H locs ls C hW hS hl)
theorem sn_ldiv  (hK : ∀ pc L st g b, K pc L st g b → J d mi R Z pc L st g b) (hd : decode mi.2.1 pc = .ok (.ldiv, len)) (h : stepP d mi.1.name mi.2.2.1 mi.2.2.2.1 own mi.2.1 e U Rt Th Xc pc (.ldiv) len L st g b K) : J d mi R Z pc L st g b := by
  obtain ⟨rfl, h⟩ := h
  obtain ⟨x, y, r, e9_38_3, hy, h9_38⟩ := p2l_e h
  clear h
  subst e9_38_3
  have h := h9_38
  intro p l E s m args below meth c H locs ls C hW hS hl
  exact lv_ldiv C.1.1 C.1.2.1 hd hy (hK _ _ _ _ _ h p l E s m args below meth c H locs ls C hW hS hl)
theorem sn_lrem  (hK : ∀ pc L st g b, K pc L st g b → J d mi R Z pc L st g b) (hd : decode mi.2.1 pc = .ok (.lrem, len)) (h : stepP d mi.1.name mi.2.2.1 mi.2.2.2.1 own mi.2.1 e U Rt Th Xc pc (.lrem) len L st g b K) : J d mi R Z pc L st g b := by
  obtain ⟨rfl, h⟩ := h
  obtain ⟨x, y, r, e9_39_3, hy, h9_39⟩ := p2l_e h
  clear h
  subst e9_39_3
  have h := h9_39
  intro p l E s m args below meth c H locs ls C hW hS hl
  exact lv_lrem C.1.1 C.1.2.1 hd hy (hK _ _ _ _ _ h p l E s m args below meth c H locs ls C hW hS hl)
theorem sn_lneg  (hK : ∀ pc L st g b, K pc L st g b → J d mi R Z pc L st g b) (hd : decode mi.2.1 pc = .ok (.lneg, len)) (h : stepP d mi.1.name mi.2.2.1 mi.2.2.2.1 own mi.2.1 e U Rt Th Xc pc (.lneg) len L st g b K) : J d mi R Z pc L st g b := by
  obtain ⟨rfl, h⟩ := h
  obtain ⟨x, r, e9_40_2, h9_40⟩ := p1l_e h
  clear h
  subst e9_40_2
  have h := h9_40
  intro p l E s m args below meth c H locs ls C hW hS hl
  exact lv_lneg C.1.1 C.1.2.1 hd (hK _ _ _ _ _ h p l E s m args below meth c H locs ls C hW hS hl)
theorem sn_lcmp  (hK : ∀ pc L st g b, K pc L st g b → J d mi R Z pc L st g b) (hd : decode mi.2.1 pc = .ok (.lcmp, len)) (h : stepP d mi.1.name mi.2.2.1 mi.2.2.2.1 own mi.2.1 e U Rt Th Xc pc (.lcmp) len L st g b K) : J d mi R Z pc L st g b := by
  obtain ⟨rfl, h⟩ := h
  obtain ⟨x, y, r, e9_41_3, h9_41⟩ := p2l_e h
  clear h
  subst e9_41_3
  have h := h9_41
  intro p l E s m args below meth c H locs ls C hW hS hl
  exact W.lcmp C.1.1 C.1.2.1 hd (hK _ _ _ _ _ h p l E s m args below meth c H locs ls C hW hS hl)
theorem sn_i2l  (hK : ∀ pc L st g b, K pc L st g b → J d mi R Z pc L st g b) (hd : decode mi.2.1 pc = .ok (.i2l, len)) (h : stepP d mi.1.name mi.2.2.1 mi.2.2.2.1 own mi.2.1 e U Rt Th Xc pc (.i2l) len L st g b K) : J d mi R Z pc L st g b := by
  obtain ⟨rfl, h⟩ := h
  obtain ⟨x, r, e9_42_2, h9_42⟩ := p1i_e h
  clear h
  subst e9_42_2
  have h := h9_42
  intro p l E s m args below meth c H locs ls C hW hS hl
  exact lv_i2l C.1.1 C.1.2.1 hd rfl (hK _ _ _ _ _ h p l E s m args below meth c H locs ls C hW hS hl)
theorem sn_l2i  (hK : ∀ pc L st g b, K pc L st g b → J d mi R Z pc L st g b) (hd : decode mi.2.1 pc = .ok (.l2i, len)) (h : stepP d mi.1.name mi.2.2.1 mi.2.2.2.1 own mi.2.1 e U Rt Th Xc pc (.l2i) len L st g b K) : J d mi R Z pc L st g b := by
  obtain ⟨rfl, h⟩ := h
  obtain ⟨x, r, e9_43_2, h9_43⟩ := p1l_e h
  clear h
  subst e9_43_2
  have h := h9_43
  intro p l E s m args below meth c H locs ls C hW hS hl
  exact lv_l2i C.1.1 C.1.2.1 hd rfl (hK _ _ _ _ _ h p l E s m args below meth c H locs ls C hW hS hl)
theorem sn_ifCond_eq {o : Int} (hK : ∀ pc L st g b, K pc L st g b → J d mi R Z pc L st g b) (hd : decode mi.2.1 pc = .ok (.ifCond .eq o, len)) (h : stepP d mi.1.name mi.2.2.1 mi.2.2.2.1 own mi.2.1 e U Rt Th Xc pc (.ifCond .eq o) len L st g b K) : J d mi R Z pc L st g b := by
  obtain ⟨rfl, h⟩ := h
  obtain ⟨x, r, e9_44_2, h9_44⟩ := p1i_e h
  clear h
  subst e9_44_2
  have h := h9_44
  obtain ⟨t, ht, h9_45⟩ := jmp_e h
  clear h
  have h := h9_45
  intro p l E s m args below meth c H locs ls C hW hS hl
  exact lv_if_eq C.1.1 C.1.2.1 hd ht (fun hc => hK _ _ _ _ _ (h.1 hc) p l E s m args below meth c H locs ls C hW hS hl) (fun hc => hK _ _ _ _ _ (h.2 hc) p l E s m args below meth c H locs ls C hW hS hl)
theorem sn_if_icmp_eq {o : Int} (hK : ∀ pc L st g b, K pc L st g b → J d mi R Z pc L st g b) (hd : decode mi.2.1 pc = .ok (.if_icmp .eq o, len)) (h : stepP d mi.1.name mi.2.2.1 mi.2.2.2.1 own mi.2.1 e U Rt Th Xc pc (.if_icmp .eq o) len L st g b K) : J d mi R Z pc L st g b := by
  obtain ⟨rfl, h⟩ := h
  obtain ⟨x, y, r, e9_46_3, h9_46⟩ := p2i_e h
  clear h
  subst e9_46_3
  have h := h9_46
  obtain ⟨t, ht, h9_47⟩ := jmp_e h
  clear h
  have h := h9_47
  intro p l E s m args below meth c H locs ls C hW hS hl
  exact lv_icmp_eq C.1.1 C.1.2.1 hd ht (fun hc => hK _ _ _ _ _ (h.1 hc) p l E s m args below meth c H locs ls C hW hS hl) (fun hc => hK _ _ _ _ _ (h.2 hc) p l E s m args below meth c H locs ls C hW hS hl)
theorem sn_ifCond_ne {o : Int} (hK : ∀ pc L st g b, K pc L st g b → J d mi R Z pc L st g b) (hd : decode mi.2.1 pc = .ok (.ifCond .ne o, len)) (h : stepP d mi.1.name mi.2.2.1 mi.2.2.2.1 own mi.2.1 e U Rt Th Xc pc (.ifCond .ne o) len L st g b K) : J d mi R Z pc L st g b := by
  obtain ⟨rfl, h⟩ := h
  obtain ⟨x, r, e9_48_2, h9_48⟩ := p1i_e h
  clear h
  subst e9_48_2
  have h := h9_48
  obtain ⟨t, ht, h9_49⟩ := jmp_e h
  clear h
  have h := h9_49
  intro p l E s m args below meth c H locs ls C hW hS hl
  exact lv_if_ne C.1.1 C.1.2.1 hd ht (fun hc => hK _ _ _ _ _ (h.2 hc) p l E s m args below meth c H locs ls C hW hS hl) (fun hc => hK _ _ _ _ _ (h.1 hc) p l E s m args below meth c H locs ls C hW hS hl)
theorem sn_if_icmp_ne {o : Int} (hK : ∀ pc L st g b, K pc L st g b → J d mi R Z pc L st g b) (hd : decode mi.2.1 pc = .ok (.if_icmp .ne o, len)) (h : stepP d mi.1.name mi.2.2.1 mi.2.2.2.1 own mi.2.1 e U Rt Th Xc pc (.if_icmp .ne o) len L st g b K) : J d mi R Z pc L st g b := by
  obtain ⟨rfl, h⟩ := h
  obtain ⟨x, y, r, e9_50_3, h9_50⟩ := p2i_e h
  clear h
  subst e9_50_3
  have h := h9_50
  obtain ⟨t, ht, h9_51⟩ := jmp_e h
  clear h
  have h := h9_51
  intro p l E s m args below meth c H locs ls C hW hS hl
  exact lv_icmp_ne C.1.1 C.1.2.1 hd ht (fun hc => hK _ _ _ _ _ (h.2 hc) p l E s m args below meth c H locs ls C hW hS hl) (fun hc => hK _ _ _ _ _ (h.1 hc) p l E s m args below meth c H locs ls C hW hS hl)
theorem sn_ifCond_lt {o : Int} (hK : ∀ pc L st g b, K pc L st g b → J d mi R Z pc L st g b) (hd : decode mi.2.1 pc = .ok (.ifCond .lt o, len)) (h : stepP d mi.1.name mi.2.2.1 mi.2.2.2.1 own mi.2.1 e U Rt Th Xc pc (.ifCond .lt o) len L st g b K) : J d mi R Z pc L st g b := by
  obtain ⟨rfl, h⟩ := h
  obtain ⟨x, r, e9_52_2, h9_52⟩ := p1i_e h
  clear h
  subst e9_52_2
  have h := h9_52
  obtain ⟨t, ht, h9_53⟩ := jmp_e h
  clear h
  have h := h9_53
  intro p l E s m args below meth c H locs ls C hW hS hl
  exact lv_if_lt C.1.1 C.1.2.1 hd ht (fun hc => hK _ _ _ _ _ (h.1 hc) p l E s m args below meth c H locs ls C hW hS hl) (fun hc => hK _ _ _ _ _ (h.2 hc) p l E s m args below meth c H locs ls C hW hS hl)
theorem sn_if_icmp_lt {o : Int} (hK : ∀ pc L st g b, K pc L st g b → J d mi R Z pc L st g b) (hd : decode mi.2.1 pc = .ok (.if_icmp .lt o, len)) (h : stepP d mi.1.name mi.2.2.1 mi.2.2.2.1 own mi.2.1 e U Rt Th Xc pc (.if_icmp .lt o) len L st g b K) : J d mi R Z pc L st g b := by
  obtain ⟨rfl, h⟩ := h
  obtain ⟨x, y, r, e9_54_3, h9_54⟩ := p2i_e h
  clear h
  subst e9_54_3
  have h := h9_54
  obtain ⟨t, ht, h9_55⟩ := jmp_e h
  clear h
  have h := h9_55
  intro p l E s m args below meth c H locs ls C hW hS hl
  exact lv_icmp_lt C.1.1 C.1.2.1 hd ht (fun hc => hK _ _ _ _ _ (h.1 hc) p l E s m args below meth c H locs ls C hW hS hl) (fun hc => hK _ _ _ _ _ (h.2 hc) p l E s m args below meth c H locs ls C hW hS hl)
theorem sn_ifCond_ge {o : Int} (hK : ∀ pc L st g b, K pc L st g b → J d mi R Z pc L st g b) (hd : decode mi.2.1 pc = .ok (.ifCond .ge o, len)) (h : stepP d mi.1.name mi.2.2.1 mi.2.2.2.1 own mi.2.1 e U Rt Th Xc pc (.ifCond .ge o) len L st g b K) : J d mi R Z pc L st g b := by
  obtain ⟨rfl, h⟩ := h
  obtain ⟨x, r, e9_56_2, h9_56⟩ := p1i_e h
  clear h
  subst e9_56_2
  have h := h9_56
  obtain ⟨t, ht, h9_57⟩ := jmp_e h
  clear h
  have h := h9_57
  intro p l E s m args below meth c H locs ls C hW hS hl
  exact lv_if_ge C.1.1 C.1.2.1 hd ht (fun hq => have hc := i32_nlt.mpr hq; hK _ _ _ _ _ (h.2 hc) p l E s m args below meth c H locs ls C hW hS hl) (fun hq => have hc := i32_nle.mp hq; hK _ _ _ _ _ (h.1 hc) p l E s m args below meth c H locs ls C hW hS hl)
theorem sn_if_icmp_ge {o : Int} (hK : ∀ pc L st g b, K pc L st g b → J d mi R Z pc L st g b) (hd : decode mi.2.1 pc = .ok (.if_icmp .ge o, len)) (h : stepP d mi.1.name mi.2.2.1 mi.2.2.2.1 own mi.2.1 e U Rt Th Xc pc (.if_icmp .ge o) len L st g b K) : J d mi R Z pc L st g b := by
  obtain ⟨rfl, h⟩ := h
  obtain ⟨x, y, r, e9_58_3, h9_58⟩ := p2i_e h
  clear h
  subst e9_58_3
  have h := h9_58
  obtain ⟨t, ht, h9_59⟩ := jmp_e h
  clear h
  have h := h9_59
  intro p l E s m args below meth c H locs ls C hW hS hl
  exact lv_icmp_ge C.1.1 C.1.2.1 hd ht (fun hq => have hc := i32_nlt.mpr hq; hK _ _ _ _ _ (h.2 hc) p l E s m args below meth c H locs ls C hW hS hl) (fun hq => have hc := i32_nle.mp hq; hK _ _ _ _ _ (h.1 hc) p l E s m args below meth c H locs ls C hW hS hl)
theorem sn_ifCond_gt {o : Int} (hK : ∀ pc L st g b, K pc L st g b → J d mi R Z pc L st g b) (hd : decode mi.2.1 pc = .ok (.ifCond .gt o, len)) (h : stepP d mi.1.name mi.2.2.1 mi.2.2.2.1 own mi.2.1 e U Rt Th Xc pc (.ifCond .gt o) len L st g b K) : J d mi R Z pc L st g b := by
  obtain ⟨rfl, h⟩ := h
  obtain ⟨x, r, e9_60_2, h9_60⟩ := p1i_e h
  clear h
  subst e9_60_2
  have h := h9_60
  obtain ⟨t, ht, h9_61⟩ := jmp_e h
  clear h
  have h := h9_61
  intro p l E s m args below meth c H locs ls C hW hS hl
  exact lv_if_gt C.1.1 C.1.2.1 hd ht (fun hc => hK _ _ _ _ _ (h.1 hc) p l E s m args below meth c H locs ls C hW hS hl) (fun hc => hK _ _ _ _ _ (h.2 hc) p l E s m args below meth c H locs ls C hW hS hl)
theorem sn_if_icmp_gt {o : Int} (hK : ∀ pc L st g b, K pc L st g b → J d mi R Z pc L st g b) (hd : decode mi.2.1 pc = .ok (.if_icmp .gt o, len)) (h : stepP d mi.1.name mi.2.2.1 mi.2.2.2.1 own mi.2.1 e U Rt Th Xc pc (.if_icmp .gt o) len L st g b K) : J d mi R Z pc L st g b := by
  obtain ⟨rfl, h⟩ := h
  obtain ⟨x, y, r, e9_62_3, h9_62⟩ := p2i_e h
  clear h
  subst e9_62_3
  have h := h9_62
  obtain ⟨t, ht, h9_63⟩ := jmp_e h
  clear h
  have h := h9_63
  intro p l E s m args below meth c H locs ls C hW hS hl
  exact lv_icmp_gt C.1.1 C.1.2.1 hd ht (fun hc => hK _ _ _ _ _ (h.1 hc) p l E s m args below meth c H locs ls C hW hS hl) (fun hc => hK _ _ _ _ _ (h.2 hc) p l E s m args below meth c H locs ls C hW hS hl)
theorem sn_ifCond_le {o : Int} (hK : ∀ pc L st g b, K pc L st g b → J d mi R Z pc L st g b) (hd : decode mi.2.1 pc = .ok (.ifCond .le o, len)) (h : stepP d mi.1.name mi.2.2.1 mi.2.2.2.1 own mi.2.1 e U Rt Th Xc pc (.ifCond .le o) len L st g b K) : J d mi R Z pc L st g b := by
  obtain ⟨rfl, h⟩ := h
  obtain ⟨x, r, e9_64_2, h9_64⟩ := p1i_e h
  clear h
  subst e9_64_2
  have h := h9_64
  obtain ⟨t, ht, h9_65⟩ := jmp_e h
  clear h
  have h := h9_65
  intro p l E s m args below meth c H locs ls C hW hS hl
  exact lv_if_le C.1.1 C.1.2.1 hd ht (fun hq => have hc := i32_nlt.mpr hq; hK _ _ _ _ _ (h.2 hc) p l E s m args below meth c H locs ls C hW hS hl) (fun hq => have hc := i32_nle.mp hq; hK _ _ _ _ _ (h.1 hc) p l E s m args below meth c H locs ls C hW hS hl)
theorem sn_if_icmp_le {o : Int} (hK : ∀ pc L st g b, K pc L st g b → J d mi R Z pc L st g b) (hd : decode mi.2.1 pc = .ok (.if_icmp .le o, len)) (h : stepP d mi.1.name mi.2.2.1 mi.2.2.2.1 own mi.2.1 e U Rt Th Xc pc (.if_icmp .le o) len L st g b K) : J d mi R Z pc L st g b := by
  obtain ⟨rfl, h⟩ := h
  obtain ⟨x, y, r, e9_66_3, h9_66⟩ := p2i_e h
  clear h
  subst e9_66_3
  have h := h9_66
  obtain ⟨t, ht, h9_67⟩ := jmp_e h
  clear h
  have h := h9_67
  intro p l E s m args below meth c H locs ls C hW hS hl
  exact lv_icmp_le C.1.1 C.1.2.1 hd ht (fun hq => have hc := i32_nlt.mpr hq; hK _ _ _ _ _ (h.2 hc) p l E s m args below meth c H locs ls C hW hS hl) (fun hq => have hc := i32_nle.mp hq; hK _ _ _ _ _ (h.1 hc) p l E s m args below meth c H locs ls C hW hS hl)
theorem sn_ifnull {o : Int} (hK : ∀ pc L st g b, K pc L st g b → J d mi R Z pc L st g b) (hd : decode mi.2.1 pc = .ok (.ifnull o, len)) (h : stepP d mi.1.name mi.2.2.1 mi.2.2.2.1 own mi.2.1 e U Rt Th Xc pc (.ifnull o) len L st g b K) : J d mi R Z pc L st g b := by
  obtain ⟨rfl, h⟩ := h
  obtain ⟨v, r, e9_68_2, h9_68⟩ := p1n_e h
  clear h
  subst e9_68_2
  have h := h9_68
  cases v with
  | none =>
    obtain ⟨t, ht, h⟩ := jmp_e (h.1 rfl)
    intro p l E s m args below meth c H locs ls C hW hS hl
    exact lv_ifnullN C.1.1 C.1.2.1 hd ht (hK _ _ _ _ _ h p l E s m args below meth c H locs ls C hW hS hl)
  | some a =>
    have h := h.2 a rfl
    intro p l E s m args below meth c H locs ls C hW hS hl
    exact lv_ifnull C.1.1 C.1.2.1 hd (hK _ _ _ _ _ h p l E s m args below meth c H locs ls C hW hS hl)
theorem sn_ifnonnull {o : Int} (hK : ∀ pc L st g b, K pc L st g b → J d mi R Z pc L st g b) (hd : decode mi.2.1 pc = .ok (.ifnonnull o, len)) (h : stepP d mi.1.name mi.2.2.1 mi.2.2.2.1 own mi.2.1 e U Rt Th Xc pc (.ifnonnull o) len L st g b K) : J d mi R Z pc L st g b := by
  obtain ⟨rfl, h⟩ := h
  obtain ⟨v, r, e9_69_2, h9_69⟩ := p1n_e h
  clear h
  subst e9_69_2
  have h := h9_69
  cases v with
  | none =>
    have h := h.1 rfl
    intro p l E s m args below meth c H locs ls C hW hS hl
    exact lv_ifnonnullN C.1.1 C.1.2.1 hd (hK _ _ _ _ _ h p l E s m args below meth c H locs ls C hW hS hl)
  | some a =>
    obtain ⟨t, ht, h⟩ := jmp_e (h.2 a rfl)
    intro p l E s m args below meth c H locs ls C hW hS hl
    exact lv_ifnonnull C.1.1 C.1.2.1 hd ht (hK _ _ _ _ _ h p l E s m args below meth c H locs ls C hW hS hl)
theorem sn_goto {o : Int} (hK : ∀ pc L st g b, K pc L st g b → J d mi R Z pc L st g b) (hd : decode mi.2.1 pc = .ok (.goto o, len)) (h : stepP d mi.1.name mi.2.2.1 mi.2.2.2.1 own mi.2.1 e U Rt Th Xc pc (.goto o) len L st g b K) : J d mi R Z pc L st g b := by
  obtain ⟨rfl, h⟩ := h
  obtain ⟨t, ht, h9_70⟩ := jmp_e h
  clear h
  have h := h9_70
  intro p l E s m args below meth c H locs ls C hW hS hl
  exact lv_goto C.1.1 C.1.2.1 hd ht (hK _ _ _ _ _ h p l E s m args below meth c H locs ls C hW hS hl)
theorem sn_tableswitch {df lo hi : Int} {offs : Array Int} (hK : ∀ pc L st g b, K pc L st g b → J d mi R Z pc L st g b) (hd : decode mi.2.1 pc = .ok (.tableswitch df lo hi offs, len)) (h : stepP d mi.1.name mi.2.2.1 mi.2.2.2.1 own mi.2.1 e U Rt Th Xc pc (.tableswitch df lo hi offs) len L st g b K) : J d mi R Z pc L st g b := by
  obtain ⟨x, r, e9_71_2, ⟨hh, h0⟩, hsw⟩ := p1i_e h
  clear h
  subst e9_71_2
  by_cases hc : x.toInt < lo ∨ hi < x.toInt
  · obtain ⟨t, ht, h⟩ := jmp_e h0
    have h := h hc
    intro p l E s m args below meth c H locs ls C hW hS hl
    exact lv_tableOut C.1.1 C.1.2.1 hd hc ht (hK _ _ _ _ _ h p l E s m args below meth c H locs ls C hW hS hl)
  · have hk : ((x.toInt - lo).toNat : Int) = x.toInt - lo := Int.toNat_of_nonneg (by omega)
    have hlt : (x.toInt - lo).toNat < offs.size := by omega
    have ho : offs[(x.toInt - lo).toNat]? = some offs[(x.toInt - lo).toNat] := Array.getElem?_eq_getElem hlt
    obtain ⟨t, ht, h⟩ := jmp_e (swAll_e hsw (x.toInt - lo).toNat offs[(x.toInt - lo).toNat] (by rw [Array.getElem?_toList]; exact ho) (by omega))
    intro p l E s m args below meth c H locs ls C hW hS hl
    exact lv_tableIn C.1.1 C.1.2.1 hd (fun q => hc (Or.inl q)) (fun q => hc (Or.inr q)) ho ht (hK _ _ _ _ _ h p l E s m args below meth c H locs ls C hW hS hl)
theorem sn_getfield {i : Nat} (hK : ∀ pc L st g b, K pc L st g b → J d mi R Z pc L st g b) (hown : mi.1.cls = fR own) (hd : decode mi.2.1 pc = .ok (.getfield i, len)) (h : stepP d mi.1.name mi.2.2.1 mi.2.2.2.1 own mi.2.1 e U Rt Th Xc pc (.getfield i) len L st g b K) : J d mi R Z pc L st g b := by
  obtain ⟨rfl, h⟩ := h
  obtain ⟨f, hf, h9_72⟩ := onOpt_e h
  clear h
  have h := h9_72
  obtain ⟨q, hq, hq1, rfl, rfl⟩ := tab_mem hf
  obtain ⟨a, r, e9_73_2, h9_73⟩ := p1r_e h
  clear h
  subst e9_73_2
  have h := h9_73
  obtain ⟨ci, fs, hg, e9_74_3, h9_74⟩ := onObj_e h
  clear h
  subst e9_74_3
  have h := h9_74
  obtain ⟨v, hv, h9_75⟩ := onOpt_e h
  clear h
  have h := h9_75
  obtain ⟨a1, a2, a3, a4, a5, a6, a7⟩ := okF_spec hq
  intro p l E s m args below meth c H locs ls C hW hS hl
  obtain ⟨ws, hr, hD, hP⟩ := id hW
  obtain ⟨q0, h0⟩ := hr.ix hg
  have how : s.vm.findClass (fR q.1) = some m.cls := by rw [hq1, ← hown]; exact C.1.2.2.2.1
  have hK2 : va_K d.1 vwCl (tysOf d) s := C.2.2.2.2.2.2.1.1
  rcases Nat.eq_zero_or_pos q.2.2.2.2.1 with hz | hz
  · exact va_get C.1.1 C.1.2.1 C.1.2.2.2.2 (TB_u a1) how hK2 hP q0 h0 (fR_cl _ a1) q.2.2.2.1 a2 (C.1.2.2.2.2 _ (TB_f hq (by unfold fW1; rw [hz]; exact List.mem_singleton.mpr rfl))) (by rw [a3]; exact fun _ hx => hx) hv hd (hK _ _ _ _ _ h p l E s m args below meth c H locs ls C hW hS hl)
  · refine va_getN (host := RX6) C.1.1 C.1.2.1 C.1.2.2.2.2 (TB_u a1) how hK2 hP q0 h0 (fR_cl _ a1) q.2.2.2.1 a2 (va_Nw.use rfl (C.2.2.2.2.2.2.1.2.1 _ (NB_f hq ?_))) (by rw [a3]; exact fun _ hx => hx) hv hd (hK _ _ _ _ _ h p l E s m args below meth c H locs ls C hW hS hl)
    unfold fN1
    split
    · next hz0 => omega
    · exact List.mem_singleton.mpr rfl
theorem sn_putfield {i : Nat} (hK : ∀ pc L st g b, K pc L st g b → J d mi R Z pc L st g b) (hown : mi.1.cls = fR own) (hd : decode mi.2.1 pc = .ok (.putfield i, len)) (h : stepP d mi.1.name mi.2.2.1 mi.2.2.2.1 own mi.2.1 e U Rt Th Xc pc (.putfield i) len L st g b K) : J d mi R Z pc L st g b := by
  obtain ⟨rfl, h⟩ := h
  obtain ⟨f, hf, h9_76⟩ := onOpt_e h
  clear h
  have h := h9_76
  obtain ⟨q, hq, hq1, rfl, rfl⟩ := tab_mem hf
  obtain ⟨v, r0, e9_77_2, h9_77⟩ := p1v_e h
  clear h
  subst e9_77_2
  have h := h9_77
  obtain ⟨a, r, e9_78_2, hvt, hfin, h9_78⟩ := p1r_e h
  clear h
  subst e9_78_2
  have h := h9_78
  obtain ⟨ci, fs, hg, e9_79_3, hlt, h9_79⟩ := onObj_e h
  clear h
  subst e9_79_3
  have h := h9_79
  obtain ⟨a1, a2, a3, a4, a5, a6, a7⟩ := okF_spec hq
  have hnf : narrow (fTy q.2.2.1 q.2.2.2.1) v = v ∧ fits (fTy q.2.2.1 q.2.2.2.1) v = true := by
    split at hvt
    · next hz => obtain ⟨x, rfl⟩ := hvt; rw [a4 hz]; exact ⟨rfl, rfl⟩
    · next hz =>
      rcases a5 hz with ⟨n, hn⟩ | ⟨t, ht⟩
      · rw [hn]; rcases hvt with rfl | ⟨x, rfl⟩ <;> exact ⟨rfl, rfl⟩
      · rw [ht]; rcases hvt with rfl | ⟨x, rfl⟩ <;> exact ⟨rfl, rfl⟩
  intro p l E s m args below meth c H locs ls C hW hS hl
  obtain ⟨ws, hr, hD, hP⟩ := id hW
  obtain ⟨q0, h0⟩ := hr.ix hg
  have how : s.vm.findClass (fR q.1) = some m.cls := by rw [hq1, ← hown]; exact C.1.2.2.2.1
  have hK2 : va_K d.1 vwCl (tysOf d) s := C.2.2.2.2.2.2.1.1
  rcases Nat.eq_zero_or_pos q.2.2.2.2.2.2 with hf0 | hf1
  · rcases Nat.eq_zero_or_pos q.2.2.2.2.1 with hz | hz
    · exact va_put C.1.1 C.1.2.1 C.1.2.2.2.2 (TB_u a1) (fTy q.2.2.1) (fTy_ok _ a1) (fNm_ok _ a1) how hK2 hP hD hS q0 h0 (fR_cl _ a1) q.2.2.2.1 a2 (C.1.2.2.2.2 _ (TB_f hq (by unfold fW1; rw [hz]; exact List.mem_singleton.mpr rfl))) (by rw [a3]; exact fun _ hx => hx) (a6 hf0) (fTy_ok _ a1 _ a2) hnf.1 hnf.2 hlt hd
        (fun H1 locs1 hP1 hD1 hS1 => hK _ _ _ _ _ h p l E s m args below meth c H1 locs1 ls C ⟨_, hr.set hD h0 (hO q.2.2.1 (fs.set q.2.2.2.1 v)), hD1, hP1⟩ hS1 hl)
    · refine va_putN (host := RX6) C.1.1 C.1.2.1 C.1.2.2.2.2 (TB_u a1) (fTy q.2.2.1) (fTy_ok _ a1) (fNm_ok _ a1) how hK2 hP hD hS q0 h0 (fR_cl _ a1) q.2.2.2.1 a2 (va_Nw.use rfl (C.2.2.2.2.2.2.1.2.1 _ (NB_f hq ?_))) (by rw [a3]; exact fun _ hx => hx) (a6 hf0) (fTy_ok _ a1 _ a2) hnf.1 hnf.2 hlt hd
        (fun H1 locs1 hP1 hD1 hS1 => hK _ _ _ _ _ h p l E s m args below meth c H1 locs1 ls C ⟨_, hr.set hD h0 (hO q.2.2.1 (fs.set q.2.2.2.1 v)), hD1, hP1⟩ hS1 hl)
      unfold fN1
      split
      · next hz0 => omega
      · exact List.mem_singleton.mpr rfl
  · rcases hfin with hfin | ⟨hnm, hne⟩
    · omega
    obtain ⟨b1, b2⟩ := a7 (by omega)
    have hdecl : (fT q.2.2.1 q.2.2.2.1).1 = fR q.1 := by
      rcases b2 with b2 | b2
      · exact absurd hne (by rw [b2]; decide)
      · rw [a3, b2]
    exact va_putF C.1.1 C.1.2.1 C.1.2.2.2.2 (TB_u a1) (fTy q.2.2.1) (fTy_ok _ a1) (fNm_ok _ a1) how hK2 hP hD hS q0 h0 (fR_cl _ a1) q.2.2.2.1 a2 (C.1.2.2.2.2 _ (TB_f hq (by unfold fW1; rw [show q.2.2.2.2.1 = 0 from hne]; exact List.mem_singleton.mpr rfl))) (by rw [a3]; exact fun _ hx => hx) b1 (C.2.2.2.2.1.trans hnm) hdecl (fTy_ok _ a1 _ a2) hnf.1 hnf.2 hlt hd
      (fun H1 locs1 hP1 hD1 hS1 => hK _ _ _ _ _ h p l E s m args below meth c H1 locs1 ls C ⟨_, hr.set hD h0 (hO q.2.2.1 (fs.set q.2.2.2.1 v)), hD1, hP1⟩ hS1 hl)
theorem sn_arraylength  (hK : ∀ pc L st g b, K pc L st g b → J d mi R Z pc L st g b) (hd : decode mi.2.1 pc = .ok (.arraylength, len)) (h : stepP d mi.1.name mi.2.2.1 mi.2.2.2.1 own mi.2.1 e U Rt Th Xc pc (.arraylength) len L st g b K) : J d mi R Z pc L st g b := by
  obtain ⟨rfl, h⟩ := h
  obtain ⟨a, r, e9_80_2, h9_80⟩ := p1r_e h
  clear h
  subst e9_80_2
  have h := h9_80
  obtain ⟨t, n, x, hg, ht, h9_81⟩ := onLen_e h
  clear h
  have h := h9_81
  intro p l E s m args below meth c H locs ls C hW hS hl
  obtain ⟨ws, hr, hD, hP⟩ := id hW
  obtain ⟨q0, h0⟩ := hr.ix hg
  have hK2 : va_K d.1 vwCl (tysOf d) s := C.2.2.2.2.2.2.1.1
  have hty : ∃ ty, aTys[t]? = some ty := ⟨aTys[t]'(by simpa [aTys] using ht), List.getElem?_eq_getElem _⟩
  obtain ⟨ty, hty⟩ := hty
  exact va_alen C.1.1 C.1.2.1 hK2 hP q0 t h0 (tysOf_at d t ty hty) rfl hd (hK _ _ _ _ _ h p l E s m args below meth c H locs ls C hW hS hl)
theorem sn_iaload  (hK : ∀ pc L st g b, K pc L st g b → J d mi R Z pc L st g b) (hd : decode mi.2.1 pc = .ok (.iaload, len)) (h : stepP d mi.1.name mi.2.2.1 mi.2.2.2.1 own mi.2.1 e U Rt Th Xc pc (.iaload) len L st g b K) : J d mi R Z pc L st g b := by
  obtain ⟨rfl, h⟩ := h
  obtain ⟨i, r0, e9_82_2, h9_82⟩ := p1i_e h
  clear h
  subst e9_82_2
  have h := h9_82
  obtain ⟨a, r, e9_83_2, h9_83⟩ := p1r_e h
  clear h
  subst e9_83_2
  have h := h9_83
  obtain ⟨t, n, f, hg, e9_84_4, hin, h9_84⟩ := onI_e h
  clear h
  subst e9_84_4
  have h := h9_84
  intro p l E s m args below meth c H locs ls C hW hS hl
  obtain ⟨ws, hr, hD, hP⟩ := id hW
  obtain ⟨q0, h0⟩ := hr.ix hg
  have hK2 : va_K d.1 vwCl (tysOf d) s := C.2.2.2.2.2.2.1.1
  exact va_iald C.1.1 C.1.2.1 hK2 hP q0 0 h0 rfl hin hd (hK _ _ _ _ _ h p l E s m args below meth c H locs ls C hW hS hl)
theorem sn_baload  (hK : ∀ pc L st g b, K pc L st g b → J d mi R Z pc L st g b) (hd : decode mi.2.1 pc = .ok (.baload, len)) (h : stepP d mi.1.name mi.2.2.1 mi.2.2.2.1 own mi.2.1 e U Rt Th Xc pc (.baload) len L st g b K) : J d mi R Z pc L st g b := by
  obtain ⟨rfl, h⟩ := h
  obtain ⟨i, r0, e9_85_2, h9_85⟩ := p1i_e h
  clear h
  subst e9_85_2
  have h := h9_85
  obtain ⟨a, r, e9_86_2, h9_86⟩ := p1r_e h
  clear h
  subst e9_86_2
  have h := h9_86
  obtain ⟨t, n, f, hg, e9_87_4, hin, h9_87⟩ := onI_e h
  clear h
  subst e9_87_4
  have h := h9_87
  intro p l E s m args below meth c H locs ls C hW hS hl
  obtain ⟨ws, hr, hD, hP⟩ := id hW
  obtain ⟨q0, h0⟩ := hr.ix hg
  have hK2 : va_K d.1 vwCl (tysOf d) s := C.2.2.2.2.2.2.1.1
  exact va_zald C.1.1 C.1.2.1 hK2 hP q0 2 h0 rfl hin hd (hK _ _ _ _ _ h p l E s m args below meth c H locs ls C hW hS hl)
theorem sn_aaload  (hK : ∀ pc L st g b, K pc L st g b → J d mi R Z pc L st g b) (hd : decode mi.2.1 pc = .ok (.aaload, len)) (h : stepP d mi.1.name mi.2.2.1 mi.2.2.2.1 own mi.2.1 e U Rt Th Xc pc (.aaload) len L st g b K) : J d mi R Z pc L st g b := by
  obtain ⟨rfl, h⟩ := h
  obtain ⟨i, r0, e9_88_2, h9_88⟩ := p1i_e h
  clear h
  subst e9_88_2
  have h := h9_88
  obtain ⟨a, r, e9_89_2, h9_89⟩ := p1r_e h
  clear h
  subst e9_89_2
  have h := h9_89
  obtain ⟨t, n, f, hg, ⟨ht1, ht2⟩, hin, hn, hs⟩ := onR_e h
  clear h
  intro p l E s m args below meth c H locs ls C hW hS hl
  obtain ⟨ws, hr, hD, hP⟩ := id hW
  obtain ⟨q0, h0⟩ := hr.ix hg
  have hK2 : va_K d.1 vwCl (tysOf d) s := C.2.2.2.2.2.2.1.1
  have hty : ∃ C2, aTys[t]? = some (.object C2) := by
    have : t = 3 ∨ t = 4 ∨ t = 5 ∨ t = 6 := by omega
    rcases this with rfl | rfl | rfl | rfl <;> exact ⟨_, rfl⟩
  obtain ⟨C2, hty⟩ := hty
  refine va_aldq C.1.1 C.1.2.1 hK2 hP q0 t h0 (tysOf_at d t _ hty) hin hd ?_
  cases hx : f i.toNatClampNeg with
  | none => exact hK _ _ _ _ _ (hn hx) p l E s m args below meth c H locs ls C hW hS hl
  | some q9 => exact hK _ _ _ _ _ (hs q9 hx) p l E s m args below meth c H locs ls C hW hS hl
theorem sn_iastore  (hK : ∀ pc L st g b, K pc L st g b → J d mi R Z pc L st g b) (hd : decode mi.2.1 pc = .ok (.iastore, len)) (h : stepP d mi.1.name mi.2.2.1 mi.2.2.2.1 own mi.2.1 e U Rt Th Xc pc (.iastore) len L st g b K) : J d mi R Z pc L st g b := by
  obtain ⟨rfl, h⟩ := h
  obtain ⟨x, r1, e9_91_2, h9_91⟩ := p1i_e h
  clear h
  subst e9_91_2
  have h := h9_91
  obtain ⟨i, r0, e9_92_2, h9_92⟩ := p1i_e h
  clear h
  subst e9_92_2
  have h := h9_92
  obtain ⟨a, r, e9_93_2, h9_93⟩ := p1r_e h
  clear h
  subst e9_93_2
  have h := h9_93
  obtain ⟨t, n, f, hg, e9_94_4, hin, h9_94⟩ := onI_e h
  clear h
  subst e9_94_4
  have h := h9_94
  intro p l E s m args below meth c H locs ls C hW hS hl
  obtain ⟨ws, hr, hD, hP⟩ := id hW
  obtain ⟨q0, h0⟩ := hr.ix hg
  have hK2 : va_K d.1 vwCl (tysOf d) s := C.2.2.2.2.2.2.1.1
  exact va_iast C.1.1 C.1.2.1 hK2 hP hD hS q0 0 h0 rfl hin hd (fun H1 locs1 hP1 hD1 hS1 => hK _ _ _ _ _ h p l E s m args below meth c H1 locs1 ls C ⟨_, hr.set hD h0 (hI 0 n (upd f i.toNatClampNeg x)), hD1, hP1⟩ hS1 hl)
theorem sn_bastore  (hK : ∀ pc L st g b, K pc L st g b → J d mi R Z pc L st g b) (hd : decode mi.2.1 pc = .ok (.bastore, len)) (h : stepP d mi.1.name mi.2.2.1 mi.2.2.2.1 own mi.2.1 e U Rt Th Xc pc (.bastore) len L st g b K) : J d mi R Z pc L st g b := by
  obtain ⟨rfl, h⟩ := h
  obtain ⟨x, r1, e9_95_2, h9_95⟩ := p1i_e h
  clear h
  subst e9_95_2
  have h := h9_95
  obtain ⟨i, r0, e9_96_2, h9_96⟩ := p1i_e h
  clear h
  subst e9_96_2
  have h := h9_96
  obtain ⟨a, r, e9_97_2, h9_97⟩ := p1r_e h
  clear h
  subst e9_97_2
  have h := h9_97
  obtain ⟨t, n, f, hg, e9_98_4, hx01, hin, h9_98⟩ := onI_e h
  clear h
  subst e9_98_4
  have h := h9_98
  have hnar : vp_nar .boolean x = x := by rcases hx01 with rfl | rfl <;> rfl
  intro p l E s m args below meth c H locs ls C hW hS hl
  obtain ⟨ws, hr, hD, hP⟩ := id hW
  obtain ⟨q0, h0⟩ := hr.ix hg
  have hK2 : va_K d.1 vwCl (tysOf d) s := C.2.2.2.2.2.2.1.1
  refine va_zast C.1.1 C.1.2.1 hK2 hP hD hS q0 2 h0 rfl hin hd (fun H1 locs1 hP1 hD1 hS1 => ?_)
  rw [hnar] at hP1 hD1
  exact hK _ _ _ _ _ h p l E s m args below meth c H1 locs1 ls C ⟨_, hr.set hD h0 (hI 2 n (upd f i.toNatClampNeg x)), hD1, hP1⟩ hS1 hl
theorem sn_aastore  (hK : ∀ pc L st g b, K pc L st g b → J d mi R Z pc L st g b) (hd : decode mi.2.1 pc = .ok (.aastore, len)) (h : stepP d mi.1.name mi.2.2.1 mi.2.2.2.1 own mi.2.1 e U Rt Th Xc pc (.aastore) len L st g b K) : J d mi R Z pc L st g b := by
  obtain ⟨rfl, h⟩ := h
  obtain ⟨v, r1, e9_99_2, h9_99⟩ := p1r_e h
  clear h
  subst e9_99_2
  have h := h9_99
  obtain ⟨i, r0, e9_100_2, h9_100⟩ := p1i_e h
  clear h
  subst e9_100_2
  have h := h9_100
  obtain ⟨a, r, e9_101_2, h9_101⟩ := p1r_e h
  clear h
  subst e9_101_2
  have h := h9_101
  obtain ⟨t, n, f, hg, h9_102⟩ := onR_e h
  clear h
  have h := h9_102
  obtain ⟨ci, fs, hgv, htc, hin, h9_103⟩ := onObj_e h
  clear h
  have h := h9_103
  intro p l E s m args below meth c H locs ls C hW hS hl
  obtain ⟨ws, hr, hD, hP⟩ := id hW
  obtain ⟨q0, h0⟩ := hr.ix hg
  have hK2 : va_K d.1 vwCl (tysOf d) s := C.2.2.2.2.2.2.1.1
  obtain ⟨q1, h1⟩ := hr.ix hgv
  have hty : ∃ r9 : vw_C, vwCl[ci]? = some r9 ∧ aTys[t]? = some (.object r9.1) := by
    rcases htc with ⟨rfl, rfl⟩ | ⟨rfl, rfl⟩ | ⟨rfl, rfl⟩ | ⟨rfl, rfl⟩ <;> exact ⟨_, rfl, rfl⟩
  obtain ⟨r9, hc9, hty⟩ := hty
  exact va_astq C.1.1 C.1.2.1 hK2 hP hD hS q0 t q1 ci h0 (tysOf_at d t _ hty) h1 hc9 hin hd (fun H1 locs1 hP1 hD1 hS1 => hK _ _ _ _ _ h p l E s m args below meth c H1 locs1 ls C ⟨_, hr.set hD h0 (hR t n (va_up f i.toNatClampNeg (some v))), hD1, hP1⟩ hS1 hl)
theorem sn_newarray {at_ : ArrayType} (hK : ∀ pc L st g b, K pc L st g b → J d mi R Z pc L st g b) (hlv : 6 + e ≤ R.frames ∧ 100 + 60 * e ≤ R.locals ∧ U ≤ R.cells ∧ 12 * U ≤ R.slots) (hd : decode mi.2.1 pc = .ok (.newarray at_, len)) (h : stepP d mi.1.name mi.2.2.1 mi.2.2.2.1 own mi.2.1 e U Rt Th Xc pc (.newarray at_) len L st g b K) : J d mi R Z pc L st g b := by
  obtain ⟨rfl, h⟩ := h
  obtain ⟨n, r, e9_104_2, hn, hsm, hbu, h9_104⟩ := p1i_e h
  clear h
  subst e9_104_2
  have h := h9_104
  intro p l E s m args below meth c H locs ls C hW hS hl
  obtain ⟨ws, hr, hD, hP⟩ := id hW
  have hK2 : va_K d.1 vwCl (tysOf d) s := C.2.2.2.2.2.2.1.1
  have hA : ∀ q, s.heap.size ≤ q → jA d q := fun q hq => Nat.le_trans C.2.2.2.2.2.2.2.2.2 hq
  obtain ⟨hl1, hl2, hl3, hl4⟩ := hlv
  split at h
  · next hty =>
    have hb9 : n.toNatClampNeg * componentBytes .int ≤ 536870912 := by simp only [componentBytes]; omega
    refine va_newa (a0 := (n.toNatClampNeg, .inl (fun _ => 0))) C.1.1 C.1.2.1 (atype := at_) (by rw [hty]; exact C.1.2.2.2.2 _ (TB_z (by simp))) hty hK2 hP hD hS hA (fun cA => rfl) hn rfl hb9 (by omega) (by omega) hd (fun q9 cA H1 hK9 hP1 hD1 hS1 => ?_)
    have hcA : cA = d.2.1 0 := Option.some.inj ((hK9.2 7 (cA, .int) rfl).2.symm.trans (hK2.2 0 (d.2.1 0, .int) rfl).2)
    subst hcA
    obtain ⟨hfr, hr9⟩ := hr.push (o := hI 0 n.toNatClampNeg (fun _ => 0)) hD1
    refine W.widen (k := b + (n.toNatClampNeg / 12 + 1)) (n := 12 * (b + (n.toNatClampNeg / 12 + 1))) (by omega) (by omega) ?_
    exact hK _ _ _ _ _ (h q9 hfr) p l E s m args below meth c H1 locs ls C ⟨_, hr9, hD1, hP1⟩ hS1 hl
  · next hty =>
    have hb9 : n.toNatClampNeg * componentBytes .boolean ≤ 536870912 := by simp only [componentBytes]; omega
    refine va_newa (a0 := (n.toNatClampNeg, .inl (fun _ => 0))) C.1.1 C.1.2.1 (atype := at_) (by rw [hty]; exact C.1.2.2.2.2 _ (TB_z (by simp))) hty hK2 hP hD hS hA (fun cA => rfl) hn rfl hb9 (by omega) (by omega) hd (fun q9 cA H1 hK9 hP1 hD1 hS1 => ?_)
    have hcA : cA = d.2.1 2 := Option.some.inj ((hK9.2 7 (cA, .boolean) rfl).2.symm.trans (hK2.2 2 (d.2.1 2, .boolean) rfl).2)
    subst hcA
    obtain ⟨hfr, hr9⟩ := hr.push (o := hI 2 n.toNatClampNeg (fun _ => 0)) hD1
    refine W.widen (k := b + (n.toNatClampNeg / 12 + 1)) (n := 12 * (b + (n.toNatClampNeg / 12 + 1))) (by omega) (by omega) ?_
    exact hK _ _ _ _ _ (h q9 hfr) p l E s m args below meth c H1 locs ls C ⟨_, hr9, hD1, hP1⟩ hS1 hl
  · exact h.elim
theorem at_facts {q : Nat × Nat × Nat} (hq : q ∈ ATL) {s : State} (hGF : GF d s) : ∃ ci, ci < 7 ∧ aTys[q.2.2]? = some (.object (fR ci)) ∧ va_AO (fR ci) s ∧ Cond.classLink (fR q.1) q.2.1 (fR ci) ∈ TB := by
  obtain ⟨h1, h2, h3, h4⟩ := hGF.2.2.2.2
  have hm : ∀ z : Nat × Nat × Nat, z ∈ CTL → Cond.classLink (fR z.1) z.2.1 (fR z.2.2) ∈ TB := fun z hz => TB_c hz (by simp [cW1])
  simp only [ATL, List.mem_cons, List.not_mem_nil, or_false] at hq
  rcases hq with rfl | rfl | rfl | rfl | rfl
  · exact ⟨1, by decide, rfl, h1, hm (6, 9, 1) (by decide)⟩
  · exact ⟨2, by decide, rfl, h2, hm (6, 15, 2) (by decide)⟩
  · exact ⟨5, by decide, rfl, h3, hm (6, 21, 5) (by decide)⟩
  · exact ⟨4, by decide, rfl, h4, hm (6, 34, 4) (by decide)⟩
  · exact ⟨2, by decide, rfl, h2, hm (2, 10, 2) (by decide)⟩
theorem sn_anewarray {i : Nat} (hK : ∀ pc L st g b, K pc L st g b → J d mi R Z pc L st g b) (hown : mi.1.cls = fR own) (hlv : 6 + e ≤ R.frames ∧ 100 + 60 * e ≤ R.locals ∧ U ≤ R.cells ∧ 12 * U ≤ R.slots) (hd : decode mi.2.1 pc = .ok (.anewarray i, len)) (h : stepP d mi.1.name mi.2.2.1 mi.2.2.2.1 own mi.2.1 e U Rt Th Xc pc (.anewarray i) len L st g b K) : J d mi R Z pc L st g b := by
  obtain ⟨rfl, h⟩ := h
  obtain ⟨t, ht, h9_105⟩ := onOpt_e h
  clear h
  have h := h9_105
  obtain ⟨q, hq, hq1, rfl, rfl⟩ := tab_mem ht
  obtain ⟨n, r, e9_106_2, hn, hsm, hbu, h9_106⟩ := p1i_e h
  clear h
  subst e9_106_2
  have h := h9_106
  intro p l E s m args below meth c H locs ls C hW hS hl
  obtain ⟨ws, hr, hD, hP⟩ := id hW
  have hK2 : va_K d.1 vwCl (tysOf d) s := C.2.2.2.2.2.2.1.1
  have hA : ∀ q, s.heap.size ≤ q → jA d q := fun q hq => Nat.le_trans C.2.2.2.2.2.2.2.2.2 hq
  have how : s.vm.findClass (fR q.1) = some m.cls := by rw [hq1, ← hown]; exact C.1.2.2.2.1
  obtain ⟨hl1, hl2, hl3, hl4⟩ := hlv
  obtain ⟨ci, hci, hty, hao, hlk⟩ : ∃ ci, ci < 7 ∧ aTys[q.2.2]? = some (.object (fR ci)) ∧ va_AO (fR ci) s ∧ Cond.classLink (fR q.1) q.2.1 (fR ci) ∈ TB := at_facts hq C.2.2.2.2.2.2.1
  have hb9 : n.toNatClampNeg * 4 ≤ 536870912 := by omega
  refine va_newq C.1.1 C.1.2.1 how (C.1.2.2.2.2 _ hlk) hao hK2 hP hD hS hA hn rfl hb9 (by omega) (by omega) hd (fun q9 cA H1 hK9 hP1 hD1 hS1 => ?_)
  have hcA : cA = d.2.1 q.2.2 := by
    obtain ⟨k1, c1, -, -, -, e1⟩ := (hK9.2 7 (cA, .object (fR ci)) rfl).2
    obtain ⟨k2, c2, -, -, -, e2⟩ := (hK2.2 q.2.2 (d.2.1 q.2.2, .object (fR ci)) (tysOf_at d _ _ hty)).2
    exact Option.some.inj (e1.symm.trans e2)
  subst hcA
  obtain ⟨hfr, hr9⟩ := hr.push (o := hR q.2.2 n.toNatClampNeg (fun _ => none)) hD1
  refine W.widen (k := b + (n.toNatClampNeg / 12 + 1)) (n := 12 * (b + (n.toNatClampNeg / 12 + 1))) (by omega) (by omega) ?_
  exact hK _ _ _ _ _ (h q9 hfr) p l E s m args below meth c H1 locs ls C ⟨_, hr9, hD1, hP1⟩ hS1 hl
theorem sn_new {i : Nat} (hK : ∀ pc L st g b, K pc L st g b → J d mi R Z pc L st g b) (hown : mi.1.cls = fR own) (hlv : 6 + e ≤ R.frames ∧ 100 + 60 * e ≤ R.locals ∧ U ≤ R.cells ∧ 12 * U ≤ R.slots) (hTh : ThOK d mi own R Z U Th) (hd : decode mi.2.1 pc = .ok (.new i, len)) (h : stepP d mi.1.name mi.2.2.1 mi.2.2.2.1 own mi.2.1 e U Rt Th Xc pc (.new i) len L st g b K) : J d mi R Z pc L st g b := by
  obtain ⟨rfl, h⟩ := h
  split at h
  · next x hx =>
    obtain ⟨rfl, hb, hp, d3, dd⟩ := h
    unfold xtab at hx
    split at hx
    · next ho =>
      cases hf : XTL.find? (fun q => q.1 == i) with
      | none => rw [hf] at hx; cases hx
      | some z =>
        rw [hf] at hx
        cases hx
        have hz := List.find?_some hf
        simp only [beq_iff_eq] at hz
        have hm := List.mem_of_find?_eq_some hf
        rw [← hz] at hd
        rcases thr4_e dd with ⟨is, d4, hs, d6, d9⟩ | ⟨is, d4, hs, d7, d10⟩
        · exact hTh pc L g b z.1 z.2.1 z.2.2 is ho hm hs hd d3 (Or.inl ⟨d4, d6, d9⟩) hb hp
        · exact hTh pc L g b z.1 z.2.1 z.2.2 is ho hm hs hd d3 (Or.inr ⟨d4, d7, d10⟩) hb hp
    · cases hx
  · obtain ⟨ci, hc, hbu, h9_107⟩ := onOpt_e h
    clear h
    have h := h9_107
    obtain ⟨q, hq, hq1, rfl, rfl⟩ := tab_mem hc
    intro p l E s m args below meth c H locs ls C hW hS hl
    obtain ⟨ws, hr, hD, hP⟩ := id hW
    have hK2 : va_K d.1 vwCl (tysOf d) s := C.2.2.2.2.2.2.1.1
    have hA : ∀ q, s.heap.size ≤ q → jA d q := fun q hq => Nat.le_trans C.2.2.2.2.2.2.2.2.2 hq
    have how : s.vm.findClass (fR q.1) = some m.cls := by rw [hq1, ← hown]; exact C.1.2.2.2.1
    have a1 : q.2.2 < 7 := by
      have := List.all_eq_true.mp CTL_ok q hq
      simpa [okCl] using this
    have hN : fN q.2.2 ≤ 26 := by
      have : ∀ ci, ci < 7 → fN ci ≤ 26 := by decide
      exact this _ a1
    obtain ⟨hl1, hl2, hl3, hl4⟩ := hlv
    refine va_new (fs := dfl q.2.2) C.1.1 C.1.2.1 C.1.2.2.2.2 (TB_u a1) (fTy q.2.2) (fTy_ok _ a1) how (C.1.2.2.2.2 _ (TB_c hq (by simp [cW1]))) (C.1.2.2.2.2 _ (TB_c hq (by simp [cW1]))) (C.1.2.2.2.2 _ (TB_c hq (by simp [cW1]))) hK2 hP hD hS hA (fR_cl _ a1) (fun j hj => ?_) (by omega) (by omega) hd (fun q9 H1 hP1 hD1 hS1 => ?_)
    · simp [vp_V, dfl, List.getD, hj]
    · obtain ⟨hfr, hr9⟩ := hr.push (o := hO q.2.2 (dfl q.2.2)) hD1
      refine W.widen (k := b + 3) (n := 12 * (b + 3)) (by omega) (by omega) ?_
      exact hK _ _ _ _ _ (h q9 hfr) p l E s m args below meth c H1 locs ls C ⟨_, hr9, hD1, hP1⟩ hS1 hl
theorem sn_invokestatic {i : Nat} (hK : ∀ pc L st g b, K pc L st g b → J d mi R Z pc L st g b) (hown : mi.1.cls = fR own) (hlv : 6 + e ≤ R.frames ∧ 100 + 60 * e ≤ R.locals ∧ U ≤ R.cells ∧ 12 * U ≤ R.slots) (hX : ∀ pc L x g b, x < 3 → Xc pc L x g b → JT d mi R Z pc L x g b) (hd : decode mi.2.1 pc = .ok (.invokestatic i, len)) (h : stepP d mi.1.name mi.2.2.1 mi.2.2.2.1 own mi.2.1 e U Rt Th Xc pc (.invokestatic i) len L st g b K) : J d mi R Z pc L st g b := by
  obtain ⟨rfl, h⟩ := h
  obtain ⟨mk, hm, hkd, h9_108⟩ := onOpt_e h
  clear h
  have h := h9_108
  obtain ⟨q, hq, hq1, rfl, rfl⟩ := tab_mem hm
  obtain ⟨As, rest, hn, e9_109_3, hcat, e2, u2, he, hu, hC⟩ := popA_e _ h
  clear h
  subst e9_109_3
  rw [← hq1] at hown
  obtain ⟨hl1, hl2, hl3, hl4⟩ := hlv
  have hz : As ++ rest = (As.reverse ++ []).reverse ++ rest := by simp
  rw [hz]
  have hn : (As.reverse ++ []).length = q.2.2.1.2.2.2.2.1 := by simpa using hn
  rcases hkd with hk | hk | hk
  · exact J_callS hq hk hown hd hn hcat (show lvOK R b e2 u2 from ⟨by omega, by omega, by omega, by omega⟩) hC (fun v g2 hp => hK _ _ _ _ _ hp) (fun x g2 hx3 hp => hX _ _ _ _ _ hx3 (hp hx3))
  · exact J_callSN hq hk hown hd hn hcat (show lvOK R b e2 u2 from ⟨by omega, by omega, by omega, by omega⟩) hC (fun v g2 hp => hK _ _ _ _ _ hp) (fun x g2 hx3 hp => hX _ _ _ _ _ hx3 (hp hx3))
  · exact J_callSX hq hk hown hd hn hcat (show lvOK R b e2 u2 from ⟨by omega, by omega, by omega, by omega⟩) hC (fun v g2 hp => hK _ _ _ _ _ hp) (fun x g2 hx3 hp => hX _ _ _ _ _ hx3 (hp hx3))
theorem sn_invokevirtual {i : Nat} (hK : ∀ pc L st g b, K pc L st g b → J d mi R Z pc L st g b) (hown : mi.1.cls = fR own) (hlv : 6 + e ≤ R.frames ∧ 100 + 60 * e ≤ R.locals ∧ U ≤ R.cells ∧ 12 * U ≤ R.slots) (hX : ∀ pc L x g b, x < 3 → Xc pc L x g b → JT d mi R Z pc L x g b) (hd : decode mi.2.1 pc = .ok (.invokevirtual i, len)) (h : stepP d mi.1.name mi.2.2.1 mi.2.2.2.1 own mi.2.1 e U Rt Th Xc pc (.invokevirtual i) len L st g b K) : J d mi R Z pc L st g b := by
  obtain ⟨rfl, h⟩ := h
  obtain ⟨mk, hm, hk, h9_110⟩ := onOpt_e h
  clear h
  have h := h9_110
  obtain ⟨q, hq, hq1, rfl, rfl⟩ := tab_mem hm
  obtain ⟨As, rest, hn, e9_111_3, hcat, h9_111⟩ := popA_e _ h
  clear h
  subst e9_111_3
  have h := h9_111
  obtain ⟨a, As2, hAs, h9_112⟩ := p1r_e h
  clear h
  have h := h9_112
  obtain ⟨ci, fs, hg, e9_113_3, e2, u2, he, hu, hC⟩ := onObj_e h
  clear h
  subst e9_113_3
  rw [← hq1] at hown
  obtain ⟨hl1, hl2, hl3, hl4⟩ := hlv
  have hz : As ++ rest = As2.reverse ++ .ref a :: rest := by
    have := congrArg List.reverse hAs
    simp at this
    rw [this]; simp
  rw [hz]
  have hAl : As.length = As2.length + 1 := by simpa using congrArg List.length hAs
  have hn : As2.length = q.2.2.1.2.2.2.2.1 := Nat.succ.inj (hAl.symm.trans hn)
  exact J_callV hq hk hown hd hg hn hcat (show lvOK R b e2 u2 from ⟨by omega, by omega, by omega, by omega⟩) hC (fun v g2 hp => hK _ _ _ _ _ hp) (fun x g2 hx3 hp => hX _ _ _ _ _ hx3 (hp hx3))
theorem sn_invokespecial {i : Nat} (hK : ∀ pc L st g b, K pc L st g b → J d mi R Z pc L st g b) (hown : mi.1.cls = fR own) (hlv : 6 + e ≤ R.frames ∧ 100 + 60 * e ≤ R.locals ∧ U ≤ R.cells ∧ 12 * U ≤ R.slots) (hX : ∀ pc L x g b, x < 3 → Xc pc L x g b → JT d mi R Z pc L x g b) (hd : decode mi.2.1 pc = .ok (.invokespecial i, len)) (h : stepP d mi.1.name mi.2.2.1 mi.2.2.2.1 own mi.2.1 e U Rt Th Xc pc (.invokespecial i) len L st g b K) : J d mi R Z pc L st g b := by
  obtain ⟨rfl, h⟩ := h
  split at h
  · next ho =>
    obtain ⟨a, r, e9_114_2, hcat, h9_114⟩ := p1r_e h
    clear h
    subst e9_114_2
    have h := h9_114
    obtain ⟨z, hz, hz2⟩ := List.any_eq_true.mp ho
    simp only [Bool.and_eq_true, beq_iff_eq] at hz2
    obtain ⟨rfl, rfl⟩ := hz2
    intro p l E s m args below meth c H locs ls C hW hS hl
    obtain ⟨hl1, hl2, hl3, hl4⟩ := hlv
    refine W.objInit C.1.1 C.1.2.1 (by rw [← hown]; exact C.1.2.2.2.1) (C.1.2.2.2.2 _ (TB_o hz)) (C.1.2.2.2.2 _ (TB_z (by simp))) (C.1.2.2.2.2 _ (TB_z (by simp))) rfl (by rw [C.1.2.2.1]; exact hl.1) rfl hd (by omega) (by have hm0 : (F0 m pc ls (Value.ref a :: r)).monitorRoom = 0 := rfl; omega) ?_
    exact hK _ _ _ _ _ h p l E s m args below meth c H locs ls C hW hS hl
  · obtain ⟨mk, hm, hkd, h9_115⟩ := onOpt_e h
    clear h
    have h := h9_115
    obtain ⟨q, hq, hq1, rfl, rfl⟩ := tab_mem hm
    obtain ⟨As, rest, hn, e9_116_3, hcat, h9_116⟩ := popA_e _ h
    clear h
    subst e9_116_3
    have h := h9_116
    obtain ⟨a, As2, hAs, e2, u2, he, hu, hC⟩ := p1r_e h
    clear h
    rw [← hq1] at hown
    obtain ⟨hl1, hl2, hl3, hl4⟩ := hlv
    have hz : As ++ rest = As2.reverse ++ .ref a :: rest := by
      have := congrArg List.reverse hAs
      simp at this
      rw [this]; simp
    rw [hz]
    have hAl : As.length = As2.length + 1 := by simpa using congrArg List.length hAs
    have hn : As2.length = q.2.2.1.2.2.2.2.1 := Nat.succ.inj (hAl.symm.trans hn)
    rcases hkd with hk | hk
    · exact J_callI hq hk hown hd hn hcat (show lvOK R b e2 u2 from ⟨by omega, by omega, by omega, by omega⟩) hC (fun v g2 hp => hK _ _ _ _ _ hp) (fun x g2 hx3 hp => hX _ _ _ _ _ hx3 (hp hx3))
    · exact J_callIN hq hk hown hd hn hcat (show lvOK R b e2 u2 from ⟨by omega, by omega, by omega, by omega⟩) hC (fun v g2 hp => hK _ _ _ _ _ hp) (fun x g2 hx3 hp => hX _ _ _ _ _ hx3 (hp hx3))
theorem sn_ireturn  (hK : ∀ pc L st g b, K pc L st g b → J d mi R Z pc L st g b) (hRt : RetOK d mi R Z U Rt) (hd : decode mi.2.1 pc = .ok (.ireturn, len)) (h : stepP d mi.1.name mi.2.2.1 mi.2.2.2.1 own mi.2.1 e U Rt Th Xc pc (.ireturn) len L st g b K) : J d mi R Z pc L st g b := by
  obtain ⟨rfl, h⟩ := h
  obtain ⟨x, r, e9_118_2, e9_118_3, hb, hr, h9_118⟩ := p1i_e h
  clear h
  subst e9_118_2
  subst e9_118_3
  have h := h9_118
  refine (hRt pc L g b hb).1 x hd ?_ h
  split at hr
  · next hq => exact ⟨_, hq, Or.inl rfl⟩
  · next hq => exact ⟨_, hq, Or.inr ⟨rfl, hr⟩⟩
  · exact hr.elim
theorem sn_lreturn  (hK : ∀ pc L st g b, K pc L st g b → J d mi R Z pc L st g b) (hRt : RetOK d mi R Z U Rt) (hd : decode mi.2.1 pc = .ok (.lreturn, len)) (h : stepP d mi.1.name mi.2.2.1 mi.2.2.2.1 own mi.2.1 e U Rt Th Xc pc (.lreturn) len L st g b K) : J d mi R Z pc L st g b := by
  obtain ⟨rfl, h⟩ := h
  obtain ⟨x, r, e9_119_2, e9_119_3, hb, hr, h9_119⟩ := p1l_e h
  clear h
  subst e9_119_2
  subst e9_119_3
  have h := h9_119
  exact (hRt pc L g b hb).2.1 x hd hr h
theorem sn_areturn  (hK : ∀ pc L st g b, K pc L st g b → J d mi R Z pc L st g b) (hRt : RetOK d mi R Z U Rt) (hd : decode mi.2.1 pc = .ok (.areturn, len)) (h : stepP d mi.1.name mi.2.2.1 mi.2.2.2.1 own mi.2.1 e U Rt Th Xc pc (.areturn) len L st g b K) : J d mi R Z pc L st g b := by
  obtain ⟨rfl, h⟩ := h
  obtain ⟨x, r, e9_120_2, e9_120_3, hb, hv, hr, h9_120⟩ := p1v_e h
  clear h
  subst e9_120_2
  subst e9_120_3
  have h := h9_120
  refine (hRt pc L g b hb).2.2.1 x hd ?_ hv h
  split at hr
  · next n hq => exact ⟨n, hq⟩
  · exact hr.elim
theorem sn_return_  (hK : ∀ pc L st g b, K pc L st g b → J d mi R Z pc L st g b) (hRt : RetOK d mi R Z U Rt) (hd : decode mi.2.1 pc = .ok (.return_, len)) (h : stepP d mi.1.name mi.2.2.1 mi.2.2.2.1 own mi.2.1 e U Rt Th Xc pc (.return_) len L st g b K) : J d mi R Z pc L st g b := by
  obtain ⟨rfl, rfl, hb, hr, h⟩ := h
  exact (hRt pc L g b hb).2.2.2 hd hr h
theorem stepP_sound {ins : Instr} (hK : ∀ pc L st g b, K pc L st g b → J d mi R Z pc L st g b) (hown : mi.1.cls = fR own) (hlv : 6 + e ≤ R.frames ∧ 100 + 60 * e ≤ R.locals ∧ U ≤ R.cells ∧ 12 * U ≤ R.slots) (hX : ∀ pc L x g b, x < 3 → Xc pc L x g b → JT d mi R Z pc L x g b) (hRt : RetOK d mi R Z U Rt) (hTh : ThOK d mi own R Z U Th) (hd : decode mi.2.1 pc = .ok (ins, len)) (h : stepP d mi.1.name mi.2.2.1 mi.2.2.2.1 own mi.2.1 e U Rt Th Xc pc (ins) len L st g b K) : J d mi R Z pc L st g b := by
  cases ins
  case aconst_null => exact sn_aconst_null hK hd h
  case iconst => exact sn_iconst hK hd h
  case bipush => exact sn_bipush hK hd h
  case sipush => exact sn_sipush hK hd h
  case lconst => exact sn_lconst hK hd h
  case ldc => exact sn_ldc hK hown hd h
  case ldc2_w => exact sn_ldc2_w hK hown hd h
  case iload => exact sn_iload hK hd h
  case iload_n => exact sn_iload_n hK hd h
  case lload => exact sn_lload hK hd h
  case lload_n => exact sn_lload_n hK hd h
  case aload => exact sn_aload hK hd h
  case aload_n => exact sn_aload_n hK hd h
  case istore => exact sn_istore hK hd h
  case istore_n => exact sn_istore_n hK hd h
  case lstore => exact sn_lstore hK hd h
  case lstore_n => exact sn_lstore_n hK hd h
  case astore => exact sn_astore hK hd h
  case astore_n => exact sn_astore_n hK hd h
  case iinc => exact sn_iinc hK hd h
  case pop => exact sn_pop hK hd h
  case dup => exact sn_dup hK hd h
  case dup2 => exact sn_dup2 hK hd h
  case iadd => exact sn_iadd hK hd h
  case isub => exact sn_isub hK hd h
  case imul => exact sn_imul hK hd h
  case iand => exact sn_iand hK hd h
  case ixor => exact sn_ixor hK hd h
  case ior => exact sn_ior hK hd h
  case ishl => exact sn_ishl hK hd h
  case idiv => exact sn_idiv hK hd h
  case irem => exact sn_irem hK hd h
  case ineg => exact sn_ineg hK hd h
  case ladd => exact sn_ladd hK hd h
  case lsub => exact sn_lsub hK hd h
  case lmul => exact sn_lmul hK hd h
  case ldiv => exact sn_ldiv hK hd h
  case lrem => exact sn_lrem hK hd h
  case lneg => exact sn_lneg hK hd h
  case lcmp => exact sn_lcmp hK hd h
  case i2l => exact sn_i2l hK hd h
  case l2i => exact sn_l2i hK hd h
  case ifCond cd o =>
    cases cd
    case eq => exact sn_ifCond_eq hK hd h
    case ne => exact sn_ifCond_ne hK hd h
    case lt => exact sn_ifCond_lt hK hd h
    case ge => exact sn_ifCond_ge hK hd h
    case gt => exact sn_ifCond_gt hK hd h
    case le => exact sn_ifCond_le hK hd h
  case if_icmp cd o =>
    cases cd
    case eq => exact sn_if_icmp_eq hK hd h
    case ne => exact sn_if_icmp_ne hK hd h
    case lt => exact sn_if_icmp_lt hK hd h
    case ge => exact sn_if_icmp_ge hK hd h
    case gt => exact sn_if_icmp_gt hK hd h
    case le => exact sn_if_icmp_le hK hd h
  case ifnull => exact sn_ifnull hK hd h
  case ifnonnull => exact sn_ifnonnull hK hd h
  case goto => exact sn_goto hK hd h
  case tableswitch => exact sn_tableswitch hK hd h
  case getfield => exact sn_getfield hK hown hd h
  case putfield => exact sn_putfield hK hown hd h
  case arraylength => exact sn_arraylength hK hd h
  case iaload => exact sn_iaload hK hd h
  case baload => exact sn_baload hK hd h
  case aaload => exact sn_aaload hK hd h
  case iastore => exact sn_iastore hK hd h
  case bastore => exact sn_bastore hK hd h
  case aastore => exact sn_aastore hK hd h
  case newarray => exact sn_newarray hK hlv hd h
  case anewarray => exact sn_anewarray hK hown hlv hd h
  case new => exact sn_new hK hown hlv hTh hd h
  case invokestatic => exact sn_invokestatic hK hown hlv hX hd h
  case invokevirtual => exact sn_invokevirtual hK hown hlv hX hd h
  case invokespecial => exact sn_invokespecial hK hown hlv hX hd h
  case ireturn => exact sn_ireturn hK hRt hd h
  case lreturn => exact sn_lreturn hK hRt hd h
  case areturn => exact sn_areturn hK hRt hd h
  case return_ => exact sn_return_ hK hRt hd h
  all_goals exact False.elim h

end SND
