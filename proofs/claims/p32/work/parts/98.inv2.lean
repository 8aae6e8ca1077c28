-- PURE: every call keeps it
theorem fibI.tr {S S2 : St} (h9 : S2.2.1 9 = S.2.1 9) (h10 : S2.2.1 10 = S.2.1 10) (h : fibI S) : fibI S2 := fun i hi => by
  obtain ⟨a, b, h1, h2, h3, h4, h5, h6⟩ := h i hi
  exact ⟨a, b, h1, h2, h3, h4, by show S2.2.1 9 i = _; rw [h9]; exact h5, by show S2.2.1 10 i = _; rw [h10]; exact h6⟩
theorem linT {S S2 : St} (h0 : S2.1 0 0 = S.1 0 0) (hs : ∀ f, f < 9 → S2.2.1 f = S.2.1 f) (hl : S2.2.2.2 = S.2.2.2) (h : linI S ∧ sumI S ∧ yarnI S (knd S)) : linI S2 ∧ sumI S2 ∧ yarnI S2 (knd S2) := by
  obtain ⟨a1, a2, a3⟩ := h
  have hw : whL S2 = whL S := funext fun i => by
    show (if S2.2.1 7 i = 0 then ixN (S2.2.1 2 i) else 0) = (if S.2.1 7 i = 0 then ixN (S.2.1 2 i) else 0)
    rw [hs 7 (by decide), hs 2 (by decide)]
  have hk : knd S2 = knd S := funext fun i => by
    show ixN (S2.2.1 0 i) = ixN (S.2.1 0 i)
    rw [hs 0 (by decide)]
  refine ⟨fun i hi => ?_, ?_, fun i hi => ?_⟩
  · have hi : i < S.1 0 0 := by rw [← h0]; exact hi
    show lin1 (S2.2.1 0 i) (S2.2.1 1 i) (S2.2.1 2 i) (S2.2.1 3 i) (S2.2.1 6 i) (S2.2.1 7 i)
    rw [hs 0 (by decide), hs 1 (by decide), hs 2 (by decide), hs 3 (by decide), hs 6 (by decide), hs 7 (by decide)]
    exact a1 i hi
  · show sumN (whL S2) (S2.1 0 0) ≤ 10000 * S2.1 0 0
    rw [hw, h0]
    exact a2
  · have hi : i < S.1 0 0 := by rw [← h0]; exact hi
    have := a3 i hi
    rw [hk]
    unfold lnkS St.lk St.i at this ⊢
    rw [hl, hs 8 (by decide)]
    exact this
theorem rigT {S S2 : St} (h1 : S2.1 0 1 = S.1 0 1) (e1 : S2.1 1 = S.1 1) (e2 : S2.1 2 = S.1 2) (e3 : S2.2.1 11 = S.2.1 11) (hn : S.1 0 0 ≤ S2.1 0 0) (h : rigI S) : rigI S2 := fun r hr => by
  have hr : r < S.1 0 1 := by rw [← h1]; exact hr
  obtain ⟨b1, b2, b3, b4⟩ := h r hr
  have b1 : S.1 1 r < S.1 0 0 := b1
  show S2.1 1 r < S2.1 0 0 ∧ 1 ≤ S2.1 2 r ∧ S2.1 2 r ≤ 6 ∧ ∃ f, f ≤ 50 ∧ S2.2.1 11 r = nI f
  rw [e1, e2, e3]
  exact ⟨by omega, b2, b3, b4⟩
theorem braT {S S2 : St} (h1 : S2.1 0 3 = S.1 0 3) (h2 : S2.1 0 4 = S.1 0 4) (e1 : S2.1 3 = S.1 3) (e2 : S2.1 4 = S.1 4) (h : braI S) : braI S2 := by
  unfold braI St.ca St.cr at h ⊢
  rw [h1, h2, e1, e2]
  exact h
theorem netT {S S2 : St} (h1 : S2.1 0 2 = S.1 0 2) (e1 : S2.1 5 = S.1 5) (e2 : S2.1 6 = S.1 6) (h : netI S) : netI S2 := fun i hi => by
  have hi : i < S.1 0 2 := by rw [← h1]; exact hi
  show 1 ≤ S2.1 5 i ∧ S2.1 5 i ≤ 10 ∧ 1 ≤ S2.1 6 i ∧ S2.1 6 i ≤ 10
  rw [e1, e2]
  exact h i hi
def lnkN (S : St) (v : Nat → Int32) (r : Nat → Option Nat) : Prop := (r 0 = none ∧ r 1 = none ∧ r 2 = none ∧ v 8 = 1) ∨ (∃ j, j < S.nl ∧ r 0 = some j ∧ r 1 = none ∧ r 2 = none ∧ v 8 = S.i 8 j ∧ ixN (v 0) = knd S j) ∨ ∃ a b c, a < S.nl ∧ b < S.nl ∧ c < S.nl ∧ r 0 = some a ∧ r 1 = some b ∧ r 2 = some c ∧ v 8 = S.i 8 a + S.i 8 b + S.i 8 c ∧ ixN (v 0) = knd S a + 1 ∧ ixN (v 0) = knd S b + 1 ∧ ixN (v 0) = knd S c + 1
theorem inv_newL {S S1 : St} {v : Nat → Int32} {r : Nat → Option Nat} (hI : Inv S) (h1 : S1.1 = S.1) (ht : S1.2.2 = S.2.2) (hf : ∀ f, f ≠ 2 → f ≠ 7 → S1.2.1 f = S.2.1 f) (hn : S.nl < 60) (hl : ∀ i, i < S.nl → ∃ l z, l ≤ 600000 ∧ z ≤ 3 ∧ S1.2.1 2 i = nI l ∧ S1.2.1 7 i = nI z) (hv : lin1 (v 0) (v 1) (v 2) (v 3) (v 6) (v 7)) (hs : sumN (whL S1) (S.1 0 0) + ixN (v 2) ≤ 10000 * (S.1 0 0 + 1)) (hy : lnkN S v r) : Inv (newL S1 v r) := by
  obtain ⟨⟨n1, n2, n3⟩, hfib, ⟨hlin, hsum, hyar⟩, hrig, hbra, hnet⟩ := hI
  have hn : S.1 0 0 < 60 := hn
  have e00 : (newL S1 v r).1 0 0 = S.1 0 0 + 1 := by simp [newL, h1]
  have en : ∀ f, f ≠ 0 → (newL S1 v r).1 f = S.1 f := fun f hf => funext fun i => by simp [newL, h1, hf]
  have e0 : ∀ i, i ≠ 0 → (newL S1 v r).1 0 i = S.1 0 i := fun i hi => by simp [newL, h1, hi]
  have ev : ∀ f, f < 9 → (newL S1 v r).2.1 f (S.1 0 0) = v f := fun f hf => by simp [newL, h1, hf]
  have eo : ∀ f i, i ≠ S.1 0 0 → (newL S1 v r).2.1 f i = S1.2.1 f i := fun f i hi => by simp [newL, h1, hi]
  have e9 : ∀ f, 9 ≤ f → (newL S1 v r).2.1 f = S.2.1 f := fun f h9 => by
    rw [← hf f (by omega) (by omega)]
    funext i
    show (if i = S1.1 0 0 ∧ f < 9 then v f else S1.2.1 f i) = S1.2.1 f i
    rw [if_neg (by omega)]
  have el : ∀ f i, i ≠ S.1 0 0 → (newL S1 v r).2.2.2 f i = S.2.2.2 f i := fun f i hi => by
    show (if i = S1.1 0 0 then r f else S1.2.2.2 f i) = _
    rw [h1, if_neg hi, ht]
  have els : ∀ f, (newL S1 v r).2.2.2 f (S.1 0 0) = r f := fun f => by
    show (if S.1 0 0 = S1.1 0 0 then r f else S1.2.2.2 f _) = _
    rw [h1, if_pos rfl]
  refine ⟨⟨by show (newL S1 v r).1 0 0 ≤ 60; omega, by show (newL S1 v r).1 0 1 ≤ 12; rw [e0 1 (by decide)]; exact n2, by show (newL S1 v r).1 0 2 ≤ 5; rw [e0 2 (by decide)]; exact n3⟩, hfib.tr (e9 9 (by decide)) (e9 10 (by decide)), ⟨fun i hi => ?_, ?_, fun i hi => ?_⟩, rigT (e0 1 (by decide)) (en 1 (by decide)) (en 2 (by decide)) (e9 11 (by decide)) (by omega) hrig, braT (e0 3 (by decide)) (e0 4 (by decide)) (en 3 (by decide)) (en 4 (by decide)) hbra, netT (e0 2 (by decide)) (en 5 (by decide)) (en 6 (by decide)) hnet⟩
  · have hi : i < S.1 0 0 + 1 := by rw [← e00]; exact hi
    show lin1 ((newL S1 v r).2.1 0 i) ((newL S1 v r).2.1 1 i) ((newL S1 v r).2.1 2 i) ((newL S1 v r).2.1 3 i) ((newL S1 v r).2.1 6 i) ((newL S1 v r).2.1 7 i)
    by_cases e : i = S.1 0 0
    · subst e
      rw [ev 0 (by decide), ev 1 (by decide), ev 2 (by decide), ev 3 (by decide), ev 6 (by decide), ev 7 (by decide)]
      exact hv
    · have hi2 : i < S.1 0 0 := by omega
      rw [eo 0 i e, eo 1 i e, eo 2 i e, eo 3 i e, eo 6 i e, eo 7 i e, hf 0 (by decide) (by decide), hf 1 (by decide) (by decide), hf 3 (by decide) (by decide), hf 6 (by decide) (by decide)]
      obtain ⟨k', h', l', s', m', z', a1, a2, a3, a4, a5, a6, b0, b1, b2, b3, b6, b7⟩ := hlin i hi2
      obtain ⟨l, z, c1, c2, c3, c4⟩ := hl i hi2
      exact ⟨k', h', l, s', m', z, a1, a2, c1, a4, a5, c2, b0, b1, c3, b3, b6, c4⟩
  · show sumN (whL (newL S1 v r)) ((newL S1 v r).1 0 0) ≤ 10000 * (newL S1 v r).1 0 0
    rw [e00]
    show sumN (whL (newL S1 v r)) (S.1 0 0) + whL (newL S1 v r) (S.1 0 0) ≤ 10000 * (S.1 0 0 + 1)
    rw [sumN_congr (f2 := whL S1) (fun i hi => by
      show (if (newL S1 v r).2.1 7 i = 0 then ixN ((newL S1 v r).2.1 2 i) else 0) = (if S1.2.1 7 i = 0 then ixN (S1.2.1 2 i) else 0)
      rw [eo 7 i (by omega), eo 2 i (by omega)])]
    have : whL (newL S1 v r) (S.1 0 0) ≤ ixN (v 2) := by
      show (if (newL S1 v r).2.1 7 (S.1 0 0) = 0 then ixN ((newL S1 v r).2.1 2 (S.1 0 0)) else 0) ≤ _
      rw [ev 7 (by decide), ev 2 (by decide)]
      split <;> omega
    omega
  · have hi : i < S.1 0 0 + 1 := by rw [← e00]; exact hi
    have hk : ∀ j, j < S.1 0 0 → knd (newL S1 v r) j = knd S j := fun j hj => by
      show ixN ((newL S1 v r).2.1 0 j) = ixN (S.2.1 0 j)
      rw [eo 0 j (by omega), hf 0 (by decide) (by decide)]
    have h8 : ∀ j, j < S.1 0 0 → (newL S1 v r).2.1 8 j = S.2.1 8 j := fun j hj => by rw [eo 8 j (by omega), hf 8 (by decide) (by decide)]
    by_cases e : i = S.1 0 0
    · subst e
      have hkn : knd (newL S1 v r) (S.1 0 0) = ixN (v 0) := by
        show ixN ((newL S1 v r).2.1 0 (S.1 0 0)) = _
        rw [ev 0 (by decide)]
      have hk3 : ixN (v 0) ≤ 3 := by
        obtain ⟨k', h', l', s', m', z', a1, a2, a3, a4, a5, a6, b0, -⟩ := hv
        rw [b0, ixN_nI (by omega)]
        exact a1
      refine ⟨by rw [hkn]; exact hk3, ?_⟩
      show ((newL S1 v r).2.2.2 0 (S.1 0 0) = none ∧ (newL S1 v r).2.2.2 1 (S.1 0 0) = none ∧ (newL S1 v r).2.2.2 2 (S.1 0 0) = none ∧ (newL S1 v r).2.1 8 (S.1 0 0) = 1) ∨ (∃ j, j < S.1 0 0 ∧ (newL S1 v r).2.2.2 0 (S.1 0 0) = some j ∧ (newL S1 v r).2.2.2 1 (S.1 0 0) = none ∧ (newL S1 v r).2.2.2 2 (S.1 0 0) = none ∧ (newL S1 v r).2.1 8 (S.1 0 0) = (newL S1 v r).2.1 8 j ∧ knd (newL S1 v r) (S.1 0 0) = knd (newL S1 v r) j) ∨ ∃ a b c, a < S.1 0 0 ∧ b < S.1 0 0 ∧ c < S.1 0 0 ∧ (newL S1 v r).2.2.2 0 (S.1 0 0) = some a ∧ (newL S1 v r).2.2.2 1 (S.1 0 0) = some b ∧ (newL S1 v r).2.2.2 2 (S.1 0 0) = some c ∧ (newL S1 v r).2.1 8 (S.1 0 0) = (newL S1 v r).2.1 8 a + (newL S1 v r).2.1 8 b + (newL S1 v r).2.1 8 c ∧ knd (newL S1 v r) (S.1 0 0) = knd (newL S1 v r) a + 1 ∧ knd (newL S1 v r) (S.1 0 0) = knd (newL S1 v r) b + 1 ∧ knd (newL S1 v r) (S.1 0 0) = knd (newL S1 v r) c + 1
      rw [els 0, els 1, els 2, ev 8 (by decide), hkn]
      rcases hy with h | ⟨j, hj, q0, q1, q2, q3, q4⟩ | ⟨a, b, c, ha, hb, hc, q0, q1, q2, q3, q4, q5, q6⟩
      · exact Or.inl h
      · exact Or.inr (Or.inl ⟨j, hj, q0, q1, q2, by rw [h8 j hj]; exact q3, by rw [hk j hj]; exact q4⟩)
      · exact Or.inr (Or.inr ⟨a, b, c, ha, hb, hc, q0, q1, q2, by rw [h8 a ha, h8 b hb, h8 c hc]; exact q3, by rw [hk a ha]; exact q4, by rw [hk b hb]; exact q5, by rw [hk c hc]; exact q6⟩)
    · have hi2 : i < S.1 0 0 := by omega
      obtain ⟨k3, h3⟩ := hyar i hi2
      refine ⟨by rw [hk i hi2]; exact k3, ?_⟩
      show ((newL S1 v r).2.2.2 0 i = none ∧ (newL S1 v r).2.2.2 1 i = none ∧ (newL S1 v r).2.2.2 2 i = none ∧ (newL S1 v r).2.1 8 i = 1) ∨ (∃ j, j < i ∧ (newL S1 v r).2.2.2 0 i = some j ∧ (newL S1 v r).2.2.2 1 i = none ∧ (newL S1 v r).2.2.2 2 i = none ∧ (newL S1 v r).2.1 8 i = (newL S1 v r).2.1 8 j ∧ knd (newL S1 v r) i = knd (newL S1 v r) j) ∨ ∃ a b c, a < i ∧ b < i ∧ c < i ∧ (newL S1 v r).2.2.2 0 i = some a ∧ (newL S1 v r).2.2.2 1 i = some b ∧ (newL S1 v r).2.2.2 2 i = some c ∧ (newL S1 v r).2.1 8 i = (newL S1 v r).2.1 8 a + (newL S1 v r).2.1 8 b + (newL S1 v r).2.1 8 c ∧ knd (newL S1 v r) i = knd (newL S1 v r) a + 1 ∧ knd (newL S1 v r) i = knd (newL S1 v r) b + 1 ∧ knd (newL S1 v r) i = knd (newL S1 v r) c + 1
      rw [el 0 i e, el 1 i e, el 2 i e, h8 i hi2, hk i hi2]
      rcases h3 with h | ⟨j, hj, q0, q1, q2, q3, q4⟩ | ⟨a, b, c, ha, hb, hc, q0, q1, q2, q3, q4, q5, q6⟩
      · exact Or.inl h
      · exact Or.inr (Or.inl ⟨j, hj, q0, q1, q2, by rw [h8 j (by omega)]; exact q3, by rw [hk j (by omega)]; exact q4⟩)
      · exact Or.inr (Or.inr ⟨a, b, c, ha, hb, hc, q0, q1, q2, by rw [h8 a (by omega), h8 b (by omega), h8 c (by omega)]; exact q3, by rw [hk a (by omega)]; exact q4, by rw [hk b (by omega)]; exact q5, by rw [hk c (by omega)]; exact q6⟩)
theorem sumN_updN {f : Nat → Nat} {i x n : Nat} (hi : i < n) : sumN (updN f i x) n + f i = sumN f n + x := sumN_upd hi
-- spin
theorem inv_spin {S : St} {i : Nat} {tw hd ln : Int32} (hI : Inv S) (hi : i < 4) (h1 : rng tw 1 30) (h2 : rng hd 0 1) (h3 : rng ln 1 10000) (hn : S.nl < 60) : Inv (spnS S i tw hd ln) := by
  obtain ⟨-, hfib, ⟨hlin, hsum, -⟩, -⟩ := id hI
  obtain ⟨-, y, y1, y2, ey⟩ := spin_m hfib hi h1
  obtain ⟨h', hh1, rfl⟩ := rng0_nat (b := 1) (by decide) h2
  obtain ⟨l', l1, l2, rfl⟩ := rng1_nat (b := 10000) (by decide) h3
  unfold spnS
  refine inv_newL hI rfl rfl (fun _ _ _ => rfl) hn (fun j hj => ?_) ?_ ?_ (Or.inl ⟨rfl, rfl, rfl, rfl⟩)
  · obtain ⟨k', h', l', s', m', z', a1, a2, a3, a4, a5, a6, b0, b1, b2, b3, b6, b7⟩ := hlin j hj
    exact ⟨l', z', a3, a6, b2, b7⟩
  · show lin1 0 (nI h') (nI l') (ysS (S.i 9 i) (S.i 10 i) tw) 0 0
    exact ⟨0, h', l', y, 0, 0, by decide, hh1, by omega, by omega, by decide, by decide, rfl, rfl, rfl, ey, rfl, rfl⟩
  · show sumN (whL S) (S.1 0 0) + ixN (nI l') ≤ 10000 * (S.1 0 0 + 1)
    rw [ixN_nI (by omega)]
    have hsum : sumN (whL S) (S.1 0 0) ≤ 10000 * S.1 0 0 := hsum
    omega
-- cut
theorem inv_pie {S : St} {i : Nat} {n : Int32} (hI : Inv S) (hi : i < S.nl) (h1 : rng n 1 (S.i 2 i)) (hz : S.i 7 i = 0) (hn : S.nl < 60) : Inv (pieS S i n) := by
  obtain ⟨-, -, ⟨hlin, hsum, -⟩, -⟩ := id hI
  obtain ⟨k', h', l', s', m', z', a1, a2, a3, a4, a5, a6, b0, b1, b2, b3, b6, b7⟩ := hlin i hi
  rw [b2] at h1
  obtain ⟨nn, n1, n2, rfl⟩ := rng1_nat (by omega) h1
  have hsub : S.i 2 i - nI nn = nI (l' - nn) := by rw [b2, pk_sub n2]
  have hpos : (0 : Int32) < nI (l' - nn) ↔ 0 < l' - nn := by
    rw [show (0 : Int32) = nI 0 from rfl]
    exact nI_ltI (by decide) (by omega)
  have e2 : ∀ j, (lcut S i (nI nn)).2.1 2 j = if j = i then nI (l' - nn) else S.2.1 2 j := fun j => by
    simp only [lcut, stI]
    rw [if_neg (by omega)]
    by_cases e : j = i
    · rw [if_pos ⟨trivial, e⟩, if_pos e]
      exact hsub
    · rw [if_neg (fun q => e q.2), if_neg e]
  have e7 : ∀ j, (lcut S i (nI nn)).2.1 7 j = if j = i then (if 0 < l' - nn then 0 else 1) else S.2.1 7 j := fun j => by
    simp only [lcut, stI]
    by_cases e : j = i
    · rw [if_pos ⟨trivial, e⟩, if_pos e, hsub, hz]
      by_cases q : 0 < l' - nn
      · rw [if_pos q, if_pos (hpos.mpr q)]
      · rw [if_neg q, if_neg (fun z => q (hpos.mp z))]
    · rw [if_neg (fun q => e q.2), if_neg e, if_neg (by omega)]
  have hw : whL (lcut S i (nI nn)) = updN (whL S) i (l' - nn) := funext fun j => by
    show (if (lcut S i (nI nn)).2.1 7 j = 0 then ixN ((lcut S i (nI nn)).2.1 2 j) else 0) = updN (whL S) i (l' - nn) j
    rw [e7, e2]
    unfold updN
    by_cases e : j = i
    · rw [if_pos e, if_pos e, if_pos e]
      by_cases q : 0 < l' - nn
      · rw [if_pos q, if_pos rfl, ixN_nI (by omega)]
      · rw [if_neg q, if_neg (by decide)]
        omega
    · rw [if_neg e, if_neg e, if_neg e]
      rfl
  have hwi : whL S i = l' := by
    show (if S.i 7 i = 0 then ixN (S.i 2 i) else 0) = l'
    rw [if_pos hz, b2, ixN_nI (by omega)]
  have hi0 : i < S.1 0 0 := hi
  unfold pieS
  refine inv_newL hI rfl rfl (fun f f2 f7 => funext fun j => ?_) hn (fun j hj => ?_) ?_ ?_ (Or.inr (Or.inl ⟨i, hi, rfl, rfl, rfl, rfl, rfl⟩))
  · simp only [lcut, stI]
    rw [if_neg (fun q => f7 q.1), if_neg (fun q => f2 q.1)]
  · obtain ⟨k9, h9, l9, s9, m9, z9, c1, c2, c3, c4, c5, c6, d0, d1, d2, d3, d6, d7⟩ := hlin j hj
    rw [e2, e7]
    by_cases e : j = i
    · rw [if_pos e, if_pos e]
      refine ⟨l' - nn, if 0 < l' - nn then 0 else 1, by omega, by split <;> omega, rfl, ?_⟩
      split <;> rfl
    · rw [if_neg e, if_neg e]
      exact ⟨l9, z9, c3, c6, d2, d7⟩
  · show lin1 (S.i 0 i) (S.i 1 i) (nI nn) (S.i 3 i) (S.i 6 i) 0
    exact ⟨k', h', nn, s', m', 0, a1, a2, by omega, a4, a5, by decide, b0, b1, rfl, b3, b6, rfl⟩
  · show sumN (whL (lcut S i (nI nn))) (S.1 0 0) + ixN (nI nn) ≤ 10000 * (S.1 0 0 + 1)
    rw [hw, ixN_nI (by omega)]
    have h9 := sumN_updN (f := whL S) (x := l' - nn) hi0
    rw [hwi] at h9
    have hsum : sumN (whL S) (S.1 0 0) ≤ 10000 * S.1 0 0 := hsum
    omega
-- lines that are used
theorem use_o {S : St} {i f j : Nat} (h : f ≠ 7 ∨ j ≠ i) : (useS S i).2.1 f j = S.2.1 f j := by
  simp only [useS, stI]
  rw [if_neg (by omega)]
theorem use_s {S : St} {i : Nat} : (useS S i).2.1 7 i = 1 := by
  simp only [useS, stI]
  rw [if_pos ⟨trivial, trivial⟩]
theorem wh_use {S : St} {i : Nat} : whL (useS S i) = updN (whL S) i 0 := funext fun j => by
  show (if (useS S i).2.1 7 j = 0 then ixN ((useS S i).2.1 2 j) else 0) = updN (whL S) i 0 j
  unfold updN
  rw [use_o (f := 2) (Or.inl (by decide))]
  by_cases e : j = i
  · rw [if_pos e, e, use_s, if_neg (by decide)]
  · rw [if_neg e, use_o (Or.inr e)]
    rfl
theorem use_l {S : St} {i : Nat} (h : ∀ j, j < S.nl → ∃ l z, l ≤ 600000 ∧ z ≤ 3 ∧ S.2.1 2 j = nI l ∧ S.2.1 7 j = nI z) : ∀ j, j < S.nl → ∃ l z, l ≤ 600000 ∧ z ≤ 3 ∧ (useS S i).2.1 2 j = nI l ∧ (useS S i).2.1 7 j = nI z := fun j hj => by
  obtain ⟨l, z, h1, h2, h3, h4⟩ := h j hj
  rw [use_o (f := 2) (Or.inl (by decide))]
  by_cases e : j = i
  · rw [e, use_s]
    rw [e] at h3
    exact ⟨l, 1, h1, by decide, h3, rfl⟩
  · rw [use_o (Or.inr e)]
    exact ⟨l, z, h1, h2, h3, h4⟩
theorem linI.lz {S : St} (h : linI S) : ∀ j, j < S.nl → ∃ l z, l ≤ 600000 ∧ z ≤ 3 ∧ S.2.1 2 j = nI l ∧ S.2.1 7 j = nI z := fun j hj => by
  obtain ⟨k9, h9, l9, s9, m9, z9, c1, c2, c3, c4, c5, c6, d0, d1, d2, d3, d6, d7⟩ := h j hj
  exact ⟨l9, z9, c3, c6, d2, d7⟩
-- splice
theorem inv_spl {S : St} {i j : Nat} {n : Int32} (hI : Inv S) (hi : i < S.nl) (hj : j < S.nl) (hij : i ≠ j) (h1 : rng n 2 6) (hm : mayS S i j n) : Inv (splS S i j n) := by
  obtain ⟨⟨n60, -, -⟩, -, ⟨hlin, hsum, -⟩, -⟩ := id hI
  obtain ⟨f1, f2, f3, f4, f5, f6⟩ := hm
  obtain ⟨k', h', l', s', m', z', a1, a2, a3, a4, a5, a6, b0, b1, b2, b3, b6, b7⟩ := hlin i hi
  obtain ⟨k9, h9, l9, s9, m9, z9, c1, c2, c3, c4, c5, c6, d0, d1, d2, d3, d6, d7⟩ := hlin j hj
  have h1' : ∃ t, 2 ≤ t ∧ t ≤ 6 ∧ n = nI t := by
    obtain ⟨q1, q2⟩ := h1
    have hn0 : ¬ n < 0 := fun h => by
      rw [Int32.lt_iff_toInt_lt] at h q1
      have e2 : (2 : Int32).toInt = 2 := rfl
      have e0 : (0 : Int32).toInt = 0 := rfl
      omega
    obtain ⟨t, t1, rfl, -⟩ := rng_nat (b := 6) (by decide) hn0 q2
    refine ⟨t, ?_, t1, rfl⟩
    rw [show (2 : Int32) = nI 2 from rfl, nI_ltI (by omega) (by decide)] at q1
    omega
  obtain ⟨t, t1, t2, rfl⟩ := h1'
  have hwi : whL S i = l' := by
    show (if S.i 7 i = 0 then ixN (S.i 2 i) else 0) = l'
    rw [if_pos f1.1, b2, ixN_nI (by omega)]
  have hwj : whL S j = l9 := by
    show (if S.i 7 j = 0 then ixN (S.i 2 j) else 0) = l9
    rw [if_pos f2.1, d2, ixN_nI (by omega)]
  have hi0 : i < S.1 0 0 := hi
  have hj0 : j < S.1 0 0 := hj
  have hn60 : S.1 0 0 < 60 := f6
  have hsum : sumN (whL S) (S.1 0 0) ≤ 10000 * S.1 0 0 := hsum
  have s1 := sumN_updN (f := whL S) (x := 0) hi0
  have s2 := sumN_updN (f := updN (whL S) i 0) (x := 0) hj0
  have e9 : updN (whL S) i 0 j = l9 := by
    unfold updN
    rw [if_neg (fun e => hij e.symm)]
    exact hwj
  rw [e9] at s2
  rw [hwi] at s1
  have hadd : S.i 2 i + S.i 2 j = nI (l' + l9) := by rw [b2, d2, nI_add]
  have htl : t ≤ l' + l9 := by
    rcases Nat.lt_or_ge (l' + l9) t with q | q
    · rw [hadd] at f5
      have := pk_sneg (a := l' + l9) (b := t) (by omega) q
      rw [Int32.lt_iff_toInt_lt] at f5 this
      omega
    · exact q
  have hlen : S.i 2 i + S.i 2 j - nI t = nI (l' + l9 - t) := by rw [hadd, pk_sub htl]
  obtain ⟨p1, p2, p3, p4, p5, p6, p7, p8, p9, -⟩ := hlin.bear hi
  obtain ⟨q1, q2, q3, q4, q5, q6, q7, q8, q9, -⟩ := hlin.bear hj
  have hb0 := pow3 p4
  have hb1 := pow3 q4
  have hkk : p1 = k' := by
    have := p5.symm.trans b0
    rw [nI_eq (by omega) (by omega)] at this
    exact this
  have hstr : imin (bearS S i) (bearS S j) * (70 + 5 * nI t) / 100 = nI (min p3 q3 * (70 + 5 * t) / 100) := by
    have hb : min p3 q3 * (70 + 5 * t) ≤ 27000 * 100 := Nat.mul_le_mul (by omega) (by omega)
    rw [p9, q9, imin_nI (by omega) (by omega), show (5 : Int32) = nI 5 from rfl, pk_mul, show (70 : Int32) = nI 70 from rfl, nI_add, pk_mul, show (100 : Int32) = nI 100 from rfl, pk_div (by omega) (by decide) (by decide)]
  have hsb : min p3 q3 * (70 + 5 * t) / 100 ≤ min p3 q3 := by
    have : min p3 q3 * (70 + 5 * t) ≤ min p3 q3 * 100 := Nat.mul_le_mul_left _ (by omega)
    omega
  unfold splS
  refine inv_newL hI rfl rfl (fun f g2 g7 => funext fun x => ?_) f6 (use_l (S := useS S i) (use_l hlin.lz)) ?_ ?_ (Or.inr (Or.inl ⟨i, hi, rfl, rfl, rfl, rfl, rfl⟩))
  · rw [use_o (Or.inl g7), use_o (Or.inl g7)]
  · show lin1 (S.i 0 i) (S.i 1 i) (S.i 2 i + S.i 2 j - nI t) (imin (bearS S i) (bearS S j) * (70 + 5 * nI t) / 100) 0 0
    rw [hlen, hstr]
    refine ⟨k', h', l' + l9 - t, min p3 q3 * (70 + 5 * t) / 100, 0, 0, a1, a2, by omega, ?_, by decide, by decide, b0, b1, rfl, rfl, rfl, rfl⟩
    rw [← hkk]
    omega
  · show sumN (whL (useS (useS S i) j)) (S.1 0 0) + ixN (S.i 2 i + S.i 2 j - nI t) ≤ 10000 * (S.1 0 0 + 1)
    rw [hlen, ixN_nI (by omega), wh_use, wh_use]
    omega
-- lay
theorem oth_nat {h : Nat} (hh : h ≤ 1) : othH (nI h) = nI (1 - h) := by
  rcases (show h = 0 ∨ h = 1 by omega) with rfl | rfl <;> rfl
theorem inv_lay {S : St} {i j k : Nat} {n : Int32} (hI : Inv S) (hi : i < S.nl) (hj : j < S.nl) (hk : k < S.nl) (hij : i ≠ j) (hik : i ≠ k) (hjk : j ≠ k) (h1 : rng n 1 30) (hm : mayL S i j k n) : Inv (layS S i j k n) := by
  obtain ⟨⟨n60, -, -⟩, -, ⟨hlin, hsum, -⟩, -⟩ := id hI
  obtain ⟨⟨z1, z2, z3⟩, ⟨k1, k2⟩, ⟨k3, k4⟩, k5, k6, k7⟩ := hm
  obtain ⟨k', h', l', s', m', z', a1, a2, a3, a4, a5, a6, b0, b1, b2, b3, b6, b7⟩ := hlin i hi
  obtain ⟨L, li, e2, hL1, hL2, eL⟩ := lay_len hlin hi hj hk h1
  have hli : li = l' := by
    have := e2.symm.trans b2
    rw [nI_eq (by omega) (by omega)] at this
    exact this
  obtain ⟨t, t1, t2, rfl⟩ := rng1_nat (b := 30) (by decide) h1
  have hwi : whL S i = l' := by
    show (if S.i 7 i = 0 then ixN (S.i 2 i) else 0) = l'
    rw [if_pos z1, b2, ixN_nI (by omega)]
  have hi0 : i < S.1 0 0 := hi
  have hj0 : j < S.1 0 0 := hj
  have hk0 : k < S.1 0 0 := hk
  have hsum : sumN (whL S) (S.1 0 0) ≤ 10000 * S.1 0 0 := hsum
  have s1 := sumN_updN (f := whL S) (x := 0) hi0
  have s2 := sumN_updN (f := updN (whL S) i 0) (x := 0) hj0
  have s3 := sumN_updN (f := updN (updN (whL S) i 0) j 0) (x := 0) hk0
  rw [hwi] at s1
  obtain ⟨p1, p2, p3, p4, p5, p6, p7, p8, p9, -⟩ := hlin.bear hi
  obtain ⟨q1, q2, q3, q4, q5, q6, q7, q8, q9, -⟩ := hlin.bear hj
  obtain ⟨r1, r2, r3, r4, r5, r6, r7, r8, r9, -⟩ := hlin.bear hk
  have hb0 := pow3 p4
  have hb1 := pow3 q4
  have hb2 := pow3 r4
  have hkp : p1 = k' := by
    have := p5.symm.trans b0
    rw [nI_eq (by omega) (by omega)] at this
    exact this
  have hkq : q1 = k' := by
    have := q5.symm.trans (k1.symm.trans b0)
    rw [nI_eq (by omega) (by omega)] at this
    exact this
  have hkr : r1 = k' := by
    have := r5.symm.trans (k3.symm.trans b0)
    rw [nI_eq (by omega) (by omega)] at this
    exact this
  subst hkp hkq hkr
  have hk3 : r1 ≤ 2 := by
    rcases (show r1 = 3 ∨ r1 ≤ 2 by omega) with e | e
    · rw [b0, e] at k5
      exact absurd rfl k5
    · exact e
  have hstr : (bearS S i + bearS S j + bearS S k) * (100 - nI t) / 100 = nI ((p3 + q3 + r3) * (100 - t) / 100) := by
    have hb : (p3 + q3 + r3) * (100 - t) ≤ 81000 * 100 := Nat.mul_le_mul (by omega) (by omega)
    rw [p9, q9, r9, nI_add, nI_add, show (100 : Int32) = nI 100 from rfl, pk_sub (by omega), pk_mul, pk_div (by omega) (by decide) (by decide)]
  have hsb : (p3 + q3 + r3) * (100 - t) / 100 ≤ p3 + q3 + r3 := by
    have : (p3 + q3 + r3) * (100 - t) ≤ (p3 + q3 + r3) * 100 := Nat.mul_le_mul_left _ (by omega)
    omega
  have hpow : 3 ^ (r1 + 1) = 3 ^ r1 * 3 := Nat.pow_succ 3 r1
  unfold layS
  refine inv_newL hI rfl rfl (fun f g2 g7 => funext fun x => ?_) k7 (use_l (S := useS (useS S i) j) (use_l (S := useS S i) (use_l hlin.lz))) ?_ ?_ (Or.inr (Or.inr ⟨i, j, k, hi, hj, hk, rfl, rfl, rfl, rfl, ?_, ?_, ?_⟩))
  · rw [use_o (Or.inl g7), use_o (Or.inl g7), use_o (Or.inl g7)]
  · show lin1 (S.i 0 i + 1) (othH (S.i 1 i)) (layL S i j k (nI t)) ((bearS S i + bearS S j + bearS S k) * (100 - nI t) / 100) 0 0
    rw [eL, hstr, b0, b1, oth_nat a2]
    refine ⟨r1 + 1, 1 - h', L, (p3 + q3 + r3) * (100 - t) / 100, 0, 0, by omega, by omega, by omega, ?_, by decide, by decide, (nI_succ r1).symm, rfl, rfl, rfl, rfl, rfl⟩
    rw [hpow]
    omega
  · show sumN (whL (useS (useS (useS S i) j) k)) (S.1 0 0) + ixN (layL S i j k (nI t)) ≤ 10000 * (S.1 0 0 + 1)
    rw [eL, ixN_nI (by omega), wh_use, wh_use, wh_use]
    omega
  · show ixN (S.i 0 i + 1) = ixN (S.i 0 i) + 1
    rw [b0, ← nI_succ, ixN_nI (by omega), ixN_nI (by omega)]
  · show ixN (S.i 0 i + 1) = ixN (S.i 0 j) + 1
    rw [← k1, b0, ← nI_succ, ixN_nI (by omega), ixN_nI (by omega)]
  · show ixN (S.i 0 i + 1) = ixN (S.i 0 k) + 1
    rw [← k3, b0, ← nI_succ, ixN_nI (by omega), ixN_nI (by omega)]
