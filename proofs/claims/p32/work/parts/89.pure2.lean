-- PURE: the net as a graph: knots are even, each bar has two ends
def okK (k : Nat) : Bool := decide ((k / 22 + k % 22 / 2) % 2 = 0) && (if k % 2 = 1 then decide (k % 22 / 2 < 10) else decide (1 ≤ k % 22 / 2))
def bk (k : Nat) : Nat := if k % 2 = 1 then 10 * (k / 22) + k % 22 / 2 else 10 * (k / 22) + k % 22 / 2 - 1
def ways : List Nat := [0, 1, 2, 3]
theorem G1d : ∀ v, v < 121 → v % 2 = 0 → ∀ w, w < 4 → (barN v w).all (fun b => decide (knN v w < 121) && decide (knN v w % 2 = 0) && decide (b < 100) && decide (knN v w ≠ v) && ways.any (fun w2 => decide (w2 < 4) && decide (barN (knN v w) w2 = some b) && decide (knN (knN v w) w2 = v))) = true := by decide +kernel
theorem G2d : ∀ x, x < 121 → x % 2 = 0 → ∀ w, w < 4 → (barN x w).all (fun b => (List.range 61).all (fun j => (ways.filter (fun w2 => decide (barN (2 * j) w2 = some b))).length == (if 2 * j = x then 1 else 0) + (if 2 * j = knN x w then 1 else 0))) = true := by decide +kernel
theorem G3d : ∀ v, v < 121 → v % 2 = 0 → ((List.range 220).filter (fun k => okK k && (upK k == v || loK k == v))).map bk = ways.filterMap (barN v) := by decide +kernel
theorem G4d : ∀ k, k < 220 → okK k = true → upK k < 121 ∧ loK k < 121 ∧ upK k % 2 = 0 ∧ loK k % 2 = 0 ∧ bk k < 100 ∧ ways.any (fun w => decide (w < 4) && decide (barN (upK k) w = some (bk k)) && decide (knN (upK k) w = loK k)) = true := by decide +kernel
theorem G5d : ∀ v, v < 121 → v % 2 = 0 → ∀ w, w < 4 → (barN v w).all (fun b => (List.range 220).any (fun k => okK k && bk k == b && ((upK k == v && loK k == knN v w) || (loK k == v && upK k == knN v w)))) = true := by decide +kernel
theorem tnM_bk {S : St} {i k : Nat} (hi : i < S.nn) (hk : k < 220) : tnM S (220 * i + k) = (okK k && S.tn i (bk k)) := by
  have h := tnM_rc (S := S) (i := i) (r := k / 22) (c := k % 22 / 2) (v := k % 2) hi (by omega) (by omega) (by omega)
  rw [show 22 * (k / 22) + (2 * (k % 22 / 2) + k % 2) = k by omega] at h
  rw [h]
  unfold okK bk
  by_cases hp : (k / 22 + k % 22 / 2) % 2 = 0
  · rw [if_pos hp, decide_eq_true hp, Bool.true_and]
    by_cases h1 : k % 2 = 1
    · rw [if_pos h1, if_pos h1, if_pos h1]
    · rw [if_neg h1, if_neg h1, if_neg h1]
  · rw [if_neg hp, decide_eq_false hp, Bool.false_and, Bool.false_and]
theorem G1 {v w b : Nat} (hv : v < 121) (he : v % 2 = 0) (hw : w < 4) (hb : barN v w = some b) : knN v w < 121 ∧ knN v w % 2 = 0 ∧ b < 100 ∧ knN v w ≠ v ∧ ∃ w2, w2 < 4 ∧ barN (knN v w) w2 = some b ∧ knN (knN v w) w2 = v := by
  have h := G1d v hv he w hw
  rw [hb] at h
  simp only [Option.all_some, Bool.and_eq_true, decide_eq_true_eq, List.any_eq_true] at h
  obtain ⟨⟨⟨⟨h1, h2⟩, h3⟩, h5⟩, w2, -, ⟨⟨h6, h7⟩, h8⟩⟩ := h
  exact ⟨h1, h2, h3, h5, w2, h6, h7, h8⟩
theorem G2 {x w b v : Nat} (hx : x < 121) (he : x % 2 = 0) (hw : w < 4) (hb : barN x w = some b) (hv : v < 121) (hev : v % 2 = 0) : (ways.filter (fun w2 => decide (barN v w2 = some b))).length = (if v = x then 1 else 0) + (if v = knN x w then 1 else 0) := by
  have h := G2d x hx he w hw
  rw [hb] at h
  simp only [Option.all_some, List.all_eq_true, List.mem_range, beq_iff_eq] at h
  have := h (v / 2) (by omega)
  rw [show 2 * (v / 2) = v by omega] at this
  exact this
theorem G4 {k : Nat} (hk : k < 220) (h : okK k = true) : upK k < 121 ∧ loK k < 121 ∧ upK k % 2 = 0 ∧ loK k % 2 = 0 ∧ bk k < 100 ∧ ∃ w, w < 4 ∧ barN (upK k) w = some (bk k) ∧ knN (upK k) w = loK k := by
  obtain ⟨h1, h2, h3, h4, h5, h6⟩ := G4d k hk h
  simp only [List.any_eq_true, Bool.and_eq_true, decide_eq_true_eq] at h6
  obtain ⟨w, -, ⟨h7, h8⟩, h9⟩ := h6
  exact ⟨h1, h2, h3, h4, h5, w, h7, h8, h9⟩
theorem G5 {v w b : Nat} (hv : v < 121) (he : v % 2 = 0) (hw : w < 4) (hb : barN v w = some b) : ∃ k, k < 220 ∧ okK k = true ∧ bk k = b ∧ ((upK k = v ∧ loK k = knN v w) ∨ (loK k = v ∧ upK k = knN v w)) := by
  have h := G5d v hv he w hw
  rw [hb] at h
  simp only [Option.all_some, List.any_eq_true, List.mem_range, Bool.and_eq_true, Bool.or_eq_true, beq_iff_eq] at h
  obtain ⟨k, h1, ⟨h2, h3⟩, h4⟩ := h
  exact ⟨k, h1, h2, h3, h4⟩
-- degrees
theorem degF_list {L : Nat → Bool} {v : Nat} : degN L v = ((ways.filterMap (barN v)).filter L).length := by
  have h : ∀ ws : List Nat, (ws.map (fun w => if lft L (barN v w) = true then 1 else 0)).sum = ((ws.filterMap (barN v)).filter L).length := by
    intro ws
    induction ws with
    | nil => rfl
    | cons w r ih =>
      rw [List.map_cons, List.sum_cons, ih]
      cases hb : barN v w with
      | none =>
        rw [List.filterMap_cons_none hb]
        simp [lft]
      | some b =>
        rw [List.filterMap_cons_some hb, List.filter_cons]
        cases hL : L b
        · simp [lft, hL]
        · simp [lft, hL]
          omega
  rw [← h]
  show degF L v 4 = _
  simp only [ways, List.map_cons, List.map_nil, List.sum_cons, List.sum_nil, degF]
  omega
theorem edF_list {T : Nat → Bool} {v : Nat} : ∀ n, edF T v n = ((List.range n).filter (fun k => T k && (upK k == v || loK k == v))).length
  | 0 => rfl
  | n + 1 => by
    rw [List.range_succ, List.filter_append, List.length_append, ← edF_list n]
    show edF T v n + (if T n = true ∧ (upK n = v ∨ loK n = v) then 1 else 0) = edF T v n + _
    congr 1
    have e : List.filter (fun k => T k && (upK k == v || loK k == v)) [n] = if (T n && (upK n == v || loK n == v)) = true then [n] else [] := List.filter_cons
    rw [e]
    by_cases h : T n = true ∧ (upK n = v ∨ loK n = v)
    · have h2 : (T n && (upK n == v || loK n == v)) = true := by simpa using h
      rw [if_pos h, if_pos h2]
      rfl
    · have h2 : ¬ (T n && (upK n == v || loK n == v)) = true := by simpa using h
      rw [if_neg h, if_neg h2]
      rfl
theorem edF_deg {S : St} {i v : Nat} (hi : i < S.nn) (hv : v < 121) (he : v % 2 = 0) : edF (fun k => tnM S (220 * i + k)) v 220 = degN (S.tn i) v := by
  rw [edF_list, degF_list, ← G3d v hv he, List.filter_map, List.length_map, List.filter_filter]
  congr 1
  refine List.filter_congr (fun k hk => ?_)
  rw [List.mem_range] at hk
  show (tnM S (220 * i + k) && (upK k == v || loK k == v)) = ((S.tn i ∘ bk) k && (okK k && (upK k == v || loK k == v)))
  rw [tnM_bk hi hk]
  show (okK k && S.tn i (bk k) && _) = (S.tn i (bk k) && _)
  cases okK k <;> cases S.tn i (bk k) <;> rfl
theorem edF_odd {S : St} {i v : Nat} (hi : i < S.nn) (ho : v % 2 = 1) : edF (fun k => tnM S (220 * i + k)) v 220 = 0 := by
  have h : ∀ n, n ≤ 220 → edF (fun k => tnM S (220 * i + k)) v n = 0 := by
    intro n
    induction n with
    | zero => intro _; rfl
    | succ n ih =>
      intro hn
      unfold edF
      rw [ih (by omega), if_neg (fun h => ?_)]
      have h1 := h.1
      rw [tnM_bk hi (by omega)] at h1
      rw [Bool.and_eq_true] at h1
      obtain ⟨-, -, h4, h5, -⟩ := G4 (by omega) h1.1
      rcases h.2 with e | e <;> omega
  exact h 220 (Nat.le_refl _)
theorem deg_clr {L : Nat → Bool} {x w b v : Nat} (hx : x < 121) (he : x % 2 = 0) (hw : w < 4) (hb : barN x w = some b) (hL : L b = true) (hv : v < 121) (hev : v % 2 = 0) : degN L v = degN (clrB L b) v + ((if v = x then 1 else 0) + (if v = knN x w then 1 else 0)) := by
  rw [← G2 hx he hw hb hv hev, degF_list, degF_list]
  have h : ∀ ws : List Nat, ((ws.filterMap (barN v)).filter L).length = ((ws.filterMap (barN v)).filter (clrB L b)).length + (ws.filter (fun w2 => decide (barN v w2 = some b))).length := by
    intro ws
    induction ws with
    | nil => rfl
    | cons w2 r ih =>
      cases hb2 : barN v w2 with
      | none =>
        rw [List.filterMap_cons_none hb2, ih, show List.filter (fun w2 => decide (barN v w2 = some b)) (w2 :: r) = List.filter (fun w2 => decide (barN v w2 = some b)) r from by rw [List.filter_cons]; simp [hb2]]
      | some b2 =>
        rw [List.filterMap_cons_some hb2, List.filter_cons, List.filter_cons]
        by_cases e : b2 = b
        · subst e
          rw [if_pos hL, if_neg (by simp [clrB]), show List.filter (fun w2 => decide (barN v w2 = some b2)) (w2 :: r) = w2 :: List.filter (fun w2 => decide (barN v w2 = some b2)) r from by rw [List.filter_cons]; simp [hb2], List.length_cons, List.length_cons, ih]
          omega
        · have e2 : clrB L b b2 = L b2 := by simp [clrB, e]
          rw [e2, show List.filter (fun w2 => decide (barN v w2 = some b)) (w2 :: r) = List.filter (fun w2 => decide (barN v w2 = some b)) r from by rw [List.filter_cons]; simp [hb2, e]]
          cases L b2
          · simp only [Bool.false_eq_true, if_false]
            exact ih
          · simp only [if_true, List.length_cons]
            omega
  exact h ways
theorem degN_pos {L : Nat → Bool} {v : Nat} : 0 < degN L v ↔ ∃ w, w < 4 ∧ ∃ b, barN v w = some b ∧ L b = true := by
  rw [degF_list, List.length_pos_iff_exists_mem]
  simp only [List.mem_filter, List.mem_filterMap, ways]
  refine ⟨fun ⟨b, ⟨w, hw, h1⟩, h2⟩ => ⟨w, by simp at hw; omega, b, h1, h2⟩, fun ⟨w, hw, b, h1, h2⟩ => ⟨b, ⟨w, by simp; omega, h1⟩, h2⟩⟩
theorem lft_iff {L : Nat → Bool} {v w : Nat} : lft L (barN v w) = true ↔ ∃ b, barN v w = some b ∧ L b = true := by
  cases hb : barN v w with
  | none => simp [lft]
  | some b => simp [lft]
