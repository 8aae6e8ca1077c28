-- THE START: the tables' facts, for the walk
theorem nc_flat : ∀ q ∈ NCL, Cond.not (.castable q.1 q.2) ∈ flatC (Jvm.Cond.and given_1 narrow_1) := by decide +kernel
theorem ao_tbl : ∀ q ∈ [RX1, RX2, RX5, RX4], Cond.arrayOver (.object q) ∈ lw_tbl := by decide +kernel
theorem st_tbl : ∀ q ∈ STL, Cond.stringRef RX6 q.1 q.2 ∈ lw_tbl := by decide +kernel
theorem thr_tbl : Cond.laysStatic Bundle.tN "UNASSIGNED_STACK" Bundle.steD ∈ lw_tbl ∧ Cond.laysStatic Bundle.tN "SUPPRESSED_SENTINEL" Bundle.listD ∈ lw_tbl ∧ Cond.initialized Bundle.tN ∈ lw_tbl := by decide +kernel
theorem thr_flat : Cond.isRef (.static Bundle.tN "UNASSIGNED_STACK" Bundle.steD) ∈ flatC (Jvm.Cond.and given_1 narrow_1) ∧ Cond.isRef (.static Bundle.tN "SUPPRESSED_SENTINEL" Bundle.listD) ∈ flatC (Jvm.Cond.and given_1 narrow_1) := by decide +kernel
theorem ctl_all : ∀ ci, ci < 7 → ∃ q ∈ CTL, q.2.2 = ci := by decide
theorem inst_TB {ci : Nat} (h : ci < 7) : Cond.instantiable (fR ci) (fN ci) ∈ TB := by
  obtain ⟨q, hq, e⟩ := ctl_all ci h
  refine TB_c hq ?_
  unfold cW1
  rw [e]
  simp
theorem aT_ok {s : State} {A : Array Value} (hts : ∀ w ∈ lw_tbl, w.before A s = true) {t : Nat} {ty : FieldType} (h : aTys[t]? = some ty) : ∃ cA, ArrOfT s cA ty ∧ va_RA s cA ty := by
  have hz : ∀ w ∈ ([.instanceMethod Lib.objectInit, .code Lib.objectInit ⟨#[0xb1]⟩ 1 none, .arrayClass .int, .arrayClass .boolean] : List Cond), w.before A s = true := fun w hw => hts w (TB_tbl w (TB_z hw))
  have ho : ∀ C, C ∈ [RX1, RX2, RX5, RX4] → ∃ cA, ArrOfT s cA (.object C) ∧ va_RA s cA (.object C) := fun C hC => by
    obtain ⟨comp, cA, kA, f1, -, f2, f3, f4⟩ := Cond.arrayOver_spec (hts _ (ao_tbl C hC))
    exact ⟨cA, fun N z => ⟨(fun k h => by cases h), kA, f2, comp, f3⟩, kA, comp, f2, f3, f1, f4⟩
  match t, h with
  | 0, h =>
    cases h
    obtain ⟨cA, kA, comp, h1, h2, h3⟩ := Cond.arrayClass_spec (hz (.arrayClass .int) (by simp))
    exact ⟨cA, fun n z => ⟨fun k h => (by cases h), kA, h2, comp, h3⟩, h1⟩
  | 1, h =>
    cases h
    obtain ⟨cA, kA, comp, h1, h2, h3⟩ := Cond.arrayClass_spec (hz (.arrayClass .boolean) (by simp))
    exact ⟨cA, fun n z => ⟨fun k h => (by cases h), kA, h2, comp, h3⟩, h1⟩
  | 2, h =>
    cases h
    obtain ⟨cA, kA, comp, h1, h2, h3⟩ := Cond.arrayClass_spec (hz (.arrayClass .boolean) (by simp))
    exact ⟨cA, fun n z => ⟨fun k h => (by cases h), kA, h2, comp, h3⟩, h1⟩
  | 3, h => cases h; exact ho RX1 (by simp)
  | 4, h => cases h; exact ho RX2 (by simp)
  | 5, h => cases h; exact ho RX5 (by simp)
  | 6, h => cases h; exact ho RX4 (by simp)
  | t + 7, h => simp [aTys] at h
theorem start_ok {s : State} {A : Array Value} {b L : Nat} {xs : Nat → Int32} (hX : va_X b L xs s s.heap) (hbs : b < s.heap.size) (hts : ∀ w ∈ lw_tbl, w.before A s = true) (hgv : (Jvm.Cond.and given_1 narrow_1).before A s = true) : ∃ d : DD, (d.2.2.1 = s.heap.size ∧ scB d = b ∧ scN d = L) ∧ GF d s ∧ GH d s s.heap := by
  have hTB : ∀ w ∈ TB, w.before A s = true := fun w hw => hts w (TB_tbl w hw)
  have hcl : ∀ ci : Nat, ∃ p : ClassId × (Nat → Nat), ci < 7 → u_Kn s (fR ci) (fT ci) (fN ci) p.1 p.2 := fun ci => by
    by_cases h : ci < 7
    · obtain ⟨cC, iS, hk⟩ := u_known (C := fR ci) (T := fT ci) (N := fN ci) (n := fN ci) hTB (TB_u h) (hTB _ (inst_TB h))
      exact ⟨(cC, iS), fun _ => hk⟩
    · exact ⟨(0, fun _ => 0), fun q => absurd q h⟩
  obtain ⟨fc, hfc⟩ := Classical.axiomOfChoice hcl
  have har : ∀ t : Nat, ∃ cA : ClassId, ∀ ty, aTys[t]? = some ty → ArrOfT s cA ty ∧ va_RA s cA ty := fun t => by
    cases h : aTys[t]? with
    | none => exact ⟨0, fun ty q => by cases q⟩
    | some ty =>
      obtain ⟨cA, h1, h2⟩ := aT_ok hts h
      exact ⟨cA, fun ty2 q => by cases q; exact ⟨h1, h2⟩⟩
  obtain ⟨fa, hfa⟩ := Classical.axiomOfChoice har
  have hc6 : ∃ cur, s.vm.findClass RX6 = some cur := by
    obtain ⟨comp, cA, kA, f1, -⟩ := Cond.arrayOver_spec (hts _ (ao_tbl RX1 (by simp)))
    obtain ⟨c, -, h1, -⟩ := Cond.castable_spec (hts _ (NB_tbl _ (NB_c 0 (by decide))))
    have := (hfc 6 (by decide)).2
    exact ⟨_, this.1⟩
  obtain ⟨cur, hcur⟩ := hc6
  have hst : ∀ k : Nat, ∃ a : Nat, ∀ tx, (k, tx) ∈ STL → vk_R RX6 k tx a s := fun k => by
    by_cases h : ∃ a, (Term.string RX6 k).eval A s none [] s = some (.ref a)
    · obtain ⟨a, ha⟩ := h
      exact ⟨a, fun tx hq => vk_R.of (hts _ (st_tbl _ hq)) ha⟩
    · refine ⟨0, fun tx hq => ?_⟩
      obtain ⟨-, -, -, a, -, -, -, -, -, ha⟩ := Cond.stringRef_spec hcur (hts _ (st_tbl _ hq))
      exact absurd ⟨a, ha⟩ h
  obtain ⟨fs, hfs⟩ := Classical.axiomOfChoice hst
  refine ⟨((fun ci => (fc ci).1, fun ci => (fc ci).2), fa, s.heap.size, fs, (b, L, xs)), ⟨rfl, rfl, rfl⟩, ⟨⟨fun k q hq => ?_, fun k q hq => ?_⟩, fun w hw => va_Nw.of (nw_onT (List.all_eq_true.mp NB_ok w hw)) (hts w (NB_tbl w hw)), fun q hq => va_Nc.of (flat_of_before _ hgv _ (nc_flat q hq)), fun q hq => hfs q.1 q.2 hq, va_AO.of (hts _ (ao_tbl RX1 (by simp))), va_AO.of (hts _ (ao_tbl RX2 (by simp))), va_AO.of (hts _ (ao_tbl RX5 (by simp))), va_AO.of (hts _ (ao_tbl RX4 (by simp)))⟩, vx_Zqof (hts _ thr_tbl.1) (hts _ thr_tbl.2.2) (flat_of_before _ hgv _ thr_flat.1) (fun a h => Nat.not_le.mpr h), ⟨vx_Zqof (hts _ thr_tbl.2.1) (hts _ thr_tbl.2.2) (flat_of_before _ hgv _ thr_flat.2) (fun a h => Nat.not_le.mpr h), hbs, hX⟩, Nat.le_refl _⟩
  · have hk : k < 7 := by
      rcases Nat.lt_or_ge k 7 with e | e
      · exact e
      · rw [List.getElem?_eq_none (by show 7 ≤ k; exact e)] at hq
        cases hq
    rw [fR_cl k hk] at hq
    cases hq
    exact hfc k hk
  · have hk : k < 7 := by
      rcases Nat.lt_or_ge k 7 with e | e
      · exact e
      · rw [List.getElem?_eq_none (by show 7 ≤ k; exact e)] at hq
        cases hq
    match k, hk, hq with
    | 0, _, hq => cases hq; exact hfa 0 _ rfl
    | 1, _, hq => cases hq; exact hfa 1 _ rfl
    | 2, _, hq => cases hq; exact hfa 2 _ rfl
    | 3, _, hq => cases hq; exact hfa 3 _ rfl
    | 4, _, hq => cases hq; exact hfa 4 _ rfl
    | 5, _, hq => cases hq; exact hfa 5 _ rfl
    | 6, _, hq => cases hq; exact hfa 6 _ rfl
