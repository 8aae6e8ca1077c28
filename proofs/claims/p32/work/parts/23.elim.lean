-- ELIMINATIONS
theorem onOpt_e {α : Type} {o : Option α} {F : α → Prop} (h : onOpt o F) : ∃ x, o = some x ∧ F x := by
  cases o with
  | none => exact h.elim
  | some x => exact ⟨x, rfl, h⟩
theorem p1i_e {st : List Value} {F : Int32 → List Value → Prop} (h : p1i st F) : ∃ x r, st = .int x :: r ∧ F x r := by
  unfold p1i at h; split at h
  · exact ⟨_, _, rfl, h⟩
  · exact h.elim
theorem p2i_e {st : List Value} {F : Int32 → Int32 → List Value → Prop} (h : p2i st F) : ∃ x y r, st = .int y :: .int x :: r ∧ F x y r := by
  unfold p2i at h; split at h
  · exact ⟨_, _, _, rfl, h⟩
  · exact h.elim
theorem p1l_e {st : List Value} {F : Int64 → List Value → Prop} (h : p1l st F) : ∃ x r, st = .long x :: r ∧ F x r := by
  unfold p1l at h; split at h
  · exact ⟨_, _, rfl, h⟩
  · exact h.elim
theorem p2l_e {st : List Value} {F : Int64 → Int64 → List Value → Prop} (h : p2l st F) : ∃ x y r, st = .long y :: .long x :: r ∧ F x y r := by
  unfold p2l at h; split at h
  · exact ⟨_, _, _, rfl, h⟩
  · exact h.elim
theorem p1r_e {st : List Value} {F : Nat → List Value → Prop} (h : p1r st F) : ∃ x r, st = .ref x :: r ∧ F x r := by
  unfold p1r at h; split at h
  · exact ⟨_, _, rfl, h⟩
  · exact h.elim
theorem p1v_e {st : List Value} {F : Value → List Value → Prop} (h : p1v st F) : ∃ x r, st = x :: r ∧ F x r := by
  unfold p1v at h; split at h
  · exact ⟨_, _, rfl, h⟩
  · exact h.elim
theorem p1n_e {st : List Value} {F : Option Nat → List Value → Prop} (h : p1n st F) : ∃ o r, st = va_rf o :: r ∧ F o r := by
  unfold p1n at h; split at h
  · exact ⟨none, _, rfl, h⟩
  · exact ⟨some _, _, rfl, h⟩
  · exact h.elim
theorem onInt_e {v : Value} {F : Int32 → Prop} (h : onInt v F) : ∃ x, v = .int x ∧ F x := by
  unfold onInt at h; split at h
  · exact ⟨_, rfl, h⟩
  · exact h.elim
theorem onLong_e {v : Value} {F : Int64 → Prop} (h : onLong v F) : ∃ x, v = .long x ∧ F x := by
  unfold onLong at h; split at h
  · exact ⟨_, rfl, h⟩
  · exact h.elim
theorem onObj_e {o : Option HObj} {F : Nat → List Value → Prop} (h : onObj o F) : ∃ ci fs, o = some (hO ci fs) ∧ F ci fs := by
  unfold onObj at h; split at h
  · exact ⟨_, _, rfl, h⟩
  · exact h.elim
theorem onI_e {o : Option HObj} {F : Nat → Nat → (Nat → Int32) → Prop} (h : onI o F) : ∃ t n f, o = some (hI t n f) ∧ F t n f := by
  unfold onI at h; split at h
  · exact ⟨_, _, _, rfl, h⟩
  · exact h.elim
theorem onL_e {o : Option HObj} {F : Nat → (Nat → Int64) → Prop} (h : onL o F) : ∃ n f, o = some (hL n f) ∧ F n f := by
  unfold onL at h; split at h
  · exact ⟨_, _, rfl, h⟩
  · exact h.elim
theorem onR_e {o : Option HObj} {F : Nat → Nat → (Nat → Option Nat) → Prop} (h : onR o F) : ∃ t n f, o = some (hR t n f) ∧ F t n f := by
  unfold onR at h; split at h
  · exact ⟨_, _, _, rfl, h⟩
  · exact h.elim
theorem onLen_e {o : Option HObj} {F : Nat → Prop} (h : onLen o F) : ∃ t n x, o = some (.inl (t, (n, x))) ∧ t < 7 ∧ F n := by
  unfold onLen at h; split at h
  · exact ⟨_, _, _, rfl, h.1, h.2⟩
  · exact h.elim
theorem popA_e : ∀ (n : Nat) {st acc : List Value} {F : List Value → List Value → Prop}, popA n st acc F → ∃ as rest, as.length = n ∧ st = as ++ rest ∧ F (as.reverse ++ acc) rest
  | 0, st, acc, F, h => ⟨[], st, rfl, rfl, h⟩
  | n + 1, [], acc, F, h => h.elim
  | n + 1, v :: st, acc, F, h => by
    obtain ⟨as, rest, h1, h2, h3⟩ := popA_e n (st := st) (acc := v :: acc) h
    exact ⟨v :: as, rest, by simp [h1], by simp [h2], by simpa using h3⟩
theorem thr4_e {ε : Type} {o : Except ε (Instr × Nat)} {F G : Nat → Prop} (h : thr4 o F G) : (∃ is, o = .ok (.ldc is, 2) ∧ F is) ∨ (∃ is, o = .ok (.ldc_w is, 3) ∧ G is) := by
  unfold thr4 at h; split at h
  · exact Or.inl ⟨_, rfl, h⟩
  · exact Or.inr ⟨_, rfl, h⟩
  · exact h.elim
theorem lk_mem : ∀ {L : List (Nat × Value)} {i : Nat} {v : Value}, lk L i = some v → (i, v) ∈ L
  | [], _, _, h => by cases h
  | (j, w) :: r, i, v, h => by
    unfold lk at h
    split at h
    · next hj => cases h; subst hj; exact List.mem_cons_self
    · exact List.mem_cons_of_mem _ (lk_mem h)
theorem rm1_eq (i : Nat) : ∀ L : List (Nat × Value), rm1 i L = L.filter (fun q => !(q.1 == i) && !(q.1 + 1 == i && q.2.category == 2))
  | [] => rfl
  | (j, v) :: r => by
    unfold rm1
    rw [List.filter_cons, rm1_eq i r]
    by_cases h1 : j = i
    · simp [h1]
    · by_cases h2 : j + 1 = i
      · by_cases h3 : v.category = 2
        · simp [h1, h2, h3]
        · simp [h1, h2, h3]
      · simp [h1, h2]
theorem rm2_eq (i : Nat) : ∀ L : List (Nat × Value), rm2 i L = L.filter (fun q => !(q.1 == i) && (!(q.1 == i + 1) && !(q.1 + 1 == i && q.2.category == 2)))
  | [] => rfl
  | (j, v) :: r => by
    unfold rm2
    rw [List.filter_cons, rm2_eq i r]
    by_cases h1 : j = i
    · simp [h1]
    · by_cases h0 : j = i + 1
      · simp [h0]
      · by_cases h2 : j + 1 = i
        · by_cases h3 : v.category = 2
          · simp [h1, h0, h2, h3]
          · simp [h1, h0, h2, h3]
        · simp [h1, h0, h2]
theorem lv_of {ls : Array Slot} {nL : Nat} {L : List (Nat × Value)} (hl : lv_has ls nL L) {i : Nat} {v : Value} (h : lk L i = some v) : ls[i]? = some (.val v) := hl.2.2 (i, v) (lk_mem h)
theorem jmp_e {pc : Nat} {off : Int} {F : Nat → Prop} (h : jmp pc off F) : ∃ t : Nat, (pc : Int) + off = (t : Int) ∧ F t := ⟨((pc : Int) + off).toNat, by rw [Int.toNat_of_nonneg h.1], h.2⟩
theorem swAll_e {F : Int → Int → Prop} : ∀ {l : List Int} {i : Int}, swAll F i l → ∀ (k : Nat) (o : Int), l[k]? = some o → F (i + k) o
  | [], i, h, k, o, hk => by simp at hk
  | a :: r, i, h, 0, o, hk => by simp at hk; subst hk; simpa using h.1
  | a :: r, i, h, k + 1, o, hk => by
    have := swAll_e h.2 k o (by simpa using hk)
    rw [show i + ((k + 1 : Nat) : Int) = i + 1 + (k : Int) by omega]
    exact this
theorem i32_nlt {x y : Int32} : ¬ x < y ↔ y ≤ x := by rw [Int32.lt_iff_toInt_lt, Int32.le_iff_toInt_le]; omega
theorem i32_nle {x y : Int32} : ¬ x ≤ y ↔ y < x := by rw [Int32.lt_iff_toInt_lt, Int32.le_iff_toInt_le]; omega
theorem TB_f {q : Nat × Nat × Nat × Nat × Nat × Nat × Nat} (h : q ∈ FTL) {w : Cond} (hw : w ∈ fW1 q) : w ∈ TB := List.mem_append_right _ (List.mem_append_left _ (List.mem_flatMap.mpr ⟨q, h, hw⟩))
theorem TB_c {q : Nat × Nat × Nat} (h : q ∈ CTL) {w : Cond} (hw : w ∈ cW1 q) : w ∈ TB := List.mem_append_right _ (List.mem_append_right _ (List.mem_append_left _ (List.mem_flatMap.mpr ⟨q, h, hw⟩)))
theorem TB_o {q : Nat × Nat} (h : q ∈ OTL) : Cond.methodLink (fR q.1) q.2 Lib.objectInit ∈ TB := List.mem_append_right _ (List.mem_append_right _ (List.mem_append_right _ (List.mem_append_left _ (List.mem_map.mpr ⟨q, h, rfl⟩))))
theorem TB_k {q : Nat × Nat × Int32} (h : q ∈ KTL) : Cond.constant (fR q.1) q.2.1 q.2.2 ∈ TB := List.mem_append_right _ (List.mem_append_right _ (List.mem_append_right _ (List.mem_append_right _ (List.mem_append_left _ (List.mem_map.mpr ⟨q, h, rfl⟩)))))
theorem TB_l {q : Nat × Nat × Int64} (h : q ∈ LTL) : Cond.constantLong (fR q.1) q.2.1 q.2.2 ∈ TB := List.mem_append_right _ (List.mem_append_right _ (List.mem_append_right _ (List.mem_append_right _ (List.mem_append_right _ (List.mem_append_left _ (List.mem_map.mpr ⟨q, h, rfl⟩))))))
theorem TB_r {w : Cond} (h : w ∈ (XTL.flatMap (fun q => [Cond.classLink RX6 q.1 (exN q.2.2), Cond.initialized (exN q.2.2)] ++ (vx_atS RX6 q.2.1 (exN q.2.2) exNames).filter goodWord)) ++ ((HTL.map (fun q => Cond.classLink RL q.1 (exN q.2))) ++
  ((List.range 7).flatMap (fun ci => u_ws (fR ci) (fT ci) (fN ci)) ++ [.instanceMethod Lib.objectInit, .code Lib.objectInit ⟨#[0xb1]⟩ 1 none, .arrayClass .int, .arrayClass .boolean]))) : w ∈ TB := List.mem_append_right _ (List.mem_append_right _ (List.mem_append_right _ (List.mem_append_right _ (List.mem_append_right _ (List.mem_append_right _ h)))))
theorem TB_u {ci : Nat} (h : ci < 7) : ∀ w ∈ u_ws (fR ci) (fT ci) (fN ci), w ∈ TB := fun w hw => TB_r (List.mem_append_right _ (List.mem_append_right _ (List.mem_append_left _ (List.mem_flatMap.mpr ⟨ci, List.mem_range.mpr h, hw⟩))))
theorem TB_z {w : Cond} (h : w ∈ ([.instanceMethod Lib.objectInit, .code Lib.objectInit ⟨#[0xb1]⟩ 1 none, .arrayClass .int, .arrayClass .boolean] : List Cond)) : w ∈ TB := TB_r (List.mem_append_right _ (List.mem_append_right _ (List.mem_append_right _ h)))
theorem NB_f {q : Nat × Nat × Nat × Nat × Nat × Nat × Nat} (h : q ∈ FTL) {w : Cond} (hw : w ∈ fN1 q) : w ∈ NB := List.mem_append_right _ (List.mem_append_left _ (List.mem_flatMap.mpr ⟨q, h, hw⟩))
theorem okF_spec {q : Nat × Nat × Nat × Nat × Nat × Nat × Nat} (h : q ∈ FTL) : q.2.2.1 < 7 ∧ q.2.2.2.1 < fN q.2.2.1 ∧ (fT q.2.2.1 q.2.2.2.1).1 = fR q.2.2.1 ∧ (q.2.2.2.2.2.1 = 0 → fTy q.2.2.1 q.2.2.2.1 = .int) ∧ (q.2.2.2.2.2.1 ≠ 0 → (∃ n, fTy q.2.2.1 q.2.2.2.1 = .object n) ∨ ∃ t, fTy q.2.2.1 q.2.2.2.1 = .array t) ∧ (q.2.2.2.2.2.2 = 0 → (fT q.2.2.1 q.2.2.2.1).2.2.2 = false) ∧ (q.2.2.2.2.2.2 ≠ 0 → (fT q.2.2.1 q.2.2.2.1).2.2.2 = true ∧ (q.2.2.2.2.1 = 1 ∨ q.2.2.1 = q.1)) := by
  have h1 := List.all_eq_true.mp FTL_ok q h
  unfold okF at h1
  simp only [Bool.and_eq_true, decide_eq_true_eq] at h1
  obtain ⟨⟨⟨⟨a1, a2⟩, a3⟩, a4⟩, a5⟩ := h1
  refine ⟨a1, a2, a3, fun hz => ?_, fun hz => ?_, fun hz => ?_, fun hz => ?_⟩
  · rw [hz] at a4
    simpa using a4
  · split at a4
    · next hq => exact absurd hq hz
    · split at a4
      · next n hn => exact Or.inl ⟨n, hn⟩
      · next t ht => exact Or.inr ⟨t, ht⟩
      · cases a4
  · rw [hz] at a5
    simpa using a5
  · split at a5
    · next hq => exact absurd hq hz
    · simpa using a5
