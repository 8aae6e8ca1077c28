-- PURE: the search through a part counts its odd knots
section BFS
variable {T V0 : Nat → Bool} {lab : Nat → Nat} {ro : Nat}
/-- what the queue's state means: reached are those of before and those queued, all of one part, none twice -/
def bfI (T V0 : Nat → Bool) (lab : Nat → Nat) (ro : Nat) (s : QS) : Prop := (∀ v, s.1 v = true ↔ V0 v = true ∨ ∃ j, j < s.2.2 ∧ s.2.1 j = v) ∧ (∀ j, j < s.2.2 → s.2.1 j < 121 ∧ s.2.1 j % 2 = 0 ∧ lab (s.2.1 j) = ro ∧ V0 (s.2.1 j) = false) ∧ (∀ f : Nat → Nat, sumN (fun j => f (s.2.1 j)) s.2.2 = sumN (fun v => if s.1 v = true ∧ V0 v = false then f v else 0) 121)
theorem sumN_lt {X : Nat → Prop} {f : Nat → Nat} {k n : Nat} (hf : ∀ v, f v ≤ 1) (hk : k < n) (h0 : f k = 0) : sumN f n + 1 ≤ n := by
  have h1 : sumN f n ≤ sumN (fun v => if v = k then 0 else 1) n := sumN_le (fun v _ => by
    show f v ≤ if v = k then 0 else 1
    split
    · next e => rw [e, h0]; exact Nat.le_refl _
    · exact hf v)
  have h2 : sumN (fun v => (if v = k then 0 else 1) + (if v = k then 1 else 0)) n = sumN (fun v => if v = k then 0 else 1) n + sumN (fun v => if v = k then 1 else 0) n := sumN_add n
  have h3 : sumN (fun v => (if v = k then 0 else 1) + (if v = k then 1 else 0)) n = n * 1 := by
    rw [← sumN_c n]
    exact sumN_congr (fun v _ => by
      show (if v = k then 0 else 1) + (if v = k then 1 else 0) = 1
      split <;> rfl)
  rw [sumN_1, if_pos hk] at h2
  omega
theorem bfI_cnt {s : QS} (h : bfI T V0 lab ro s) : s.2.2 ≤ 121 := by
  have h1 := h.2.2 (fun _ => 1)
  rw [sumN_c, Nat.mul_one] at h1
  have h2 : sumN (fun v => if s.1 v = true ∧ V0 v = false then 1 else 0) 121 ≤ sumN (fun _ => 1) 121 := sumN_le (fun v _ => by
    show (if s.1 v = true ∧ V0 v = false then 1 else 0) ≤ 1
    split <;> omega)
  rw [sumN_c] at h2
  omega
theorem bfI_push {s : QS} {k : Nat} (h : bfI T V0 lab ro s) (hk : k < 121) (he : k % 2 = 0) (hl : lab k = ro) (hV0 : V0 k = false) (hV : s.1 k = false) : bfI T V0 lab ro (qkS s k) ∧ (qkS s k).2.2 = s.2.2 + 1 ∧ (∀ j, j < s.2.2 → (qkS s k).2.1 j = s.2.1 j) ∧ (∀ v, (qkS s k).1 v = true ↔ s.1 v = true ∨ v = k) := by
  have hc : s.2.2 < 121 := by
    have h1 := h.2.2 (fun _ => 1)
    rw [sumN_c, Nat.mul_one] at h1
    have h2 := sumN_lt (X := fun _ => True) (f := fun v => if s.1 v = true ∧ V0 v = false then 1 else 0) (k := k) (n := 121) (fun v => by
      show (if s.1 v = true ∧ V0 v = false then 1 else 0) ≤ 1
      split <;> omega) hk (by
      show (if s.1 k = true ∧ V0 k = false then 1 else 0) = 0
      rw [if_neg (fun q => by rw [hV] at q; cases q.1)])
    omega
  have hq : qkS s k = (setB s.1 k, updN s.2.1 s.2.2 k, s.2.2 + 1) := by
    unfold qkS
    rw [if_pos hc]
  have hset : ∀ v, setB s.1 k v = true ↔ s.1 v = true ∨ v = k := fun v => by
    unfold setB
    by_cases e : v = k
    · rw [if_pos e]
      exact ⟨fun _ => Or.inr e, fun _ => rfl⟩
    · rw [if_neg e]
      exact ⟨Or.inl, fun q => q.resolve_right e⟩
  have hold : ∀ j, j < s.2.2 → updN s.2.1 s.2.2 k j = s.2.1 j := fun j hj => by unfold updN; rw [if_neg (by omega)]
  have hnew : updN s.2.1 s.2.2 k s.2.2 = k := by unfold updN; rw [if_pos rfl]
  rw [hq]
  refine ⟨⟨fun v => ?_, fun j hj => ?_, fun f => ?_⟩, rfl, hold, hset⟩
  · show setB s.1 k v = true ↔ _
    rw [hset, h.1 v]
    refine ⟨fun q => ?_, fun q => ?_⟩
    · rcases q with (q | ⟨j, hj, e⟩) | e
      · exact Or.inl q
      · exact Or.inr ⟨j, by show j < s.2.2 + 1; omega, by show updN s.2.1 s.2.2 k j = v; rw [hold j hj]; exact e⟩
      · exact Or.inr ⟨s.2.2, by show s.2.2 < s.2.2 + 1; omega, by show updN s.2.1 s.2.2 k s.2.2 = v; rw [hnew]; exact e.symm⟩
    · rcases q with q | ⟨j, hj, e⟩
      · exact Or.inl (Or.inl q)
      · have hj : j < s.2.2 + 1 := hj
        have e : updN s.2.1 s.2.2 k j = v := e
        by_cases e2 : j = s.2.2
        · rw [e2, hnew] at e
          exact Or.inr e.symm
        · rw [hold j (by omega)] at e
          exact Or.inl (Or.inr ⟨j, by omega, e⟩)
  · have hj : j < s.2.2 + 1 := hj
    show updN s.2.1 s.2.2 k j < 121 ∧ updN s.2.1 s.2.2 k j % 2 = 0 ∧ lab (updN s.2.1 s.2.2 k j) = ro ∧ V0 (updN s.2.1 s.2.2 k j) = false
    by_cases e2 : j = s.2.2
    · rw [e2, hnew]
      exact ⟨hk, he, hl, hV0⟩
    · rw [hold j (by omega)]
      exact h.2.1 j (by omega)
  · show sumN (fun j => f (updN s.2.1 s.2.2 k j)) s.2.2 + f (updN s.2.1 s.2.2 k s.2.2) = sumN (fun v => if setB s.1 k v = true ∧ V0 v = false then f v else 0) 121
    rw [hnew, sumN_congr (f2 := fun j => f (s.2.1 j)) (fun j hj => by show f (updN s.2.1 s.2.2 k j) = _; rw [hold j hj]), h.2.2 f]
    have e1 : sumN (fun v => if setB s.1 k v = true ∧ V0 v = false then f v else 0) 121 = sumN (fun v => (if s.1 v = true ∧ V0 v = false then f v else 0) + (if v = k then f k else 0)) 121 := sumN_congr (fun v _ => by
      show (if setB s.1 k v = true ∧ V0 v = false then f v else 0) = (if s.1 v = true ∧ V0 v = false then f v else 0) + (if v = k then f k else 0)
      by_cases e : v = k
      · subst e
        rw [if_pos ⟨(hset v).mpr (Or.inr rfl), hV0⟩, if_neg (fun q => by rw [hV] at q; cases q.1), if_pos rfl]
        omega
      · rw [if_neg e]
        by_cases q : s.1 v = true ∧ V0 v = false
        · rw [if_pos q, if_pos ⟨(hset v).mpr (Or.inl q.1), q.2⟩]
          rfl
        · rw [if_neg q, if_neg (fun q2 => q ⟨((hset v).mp q2.1).resolve_right e, q2.2⟩)])
    rw [e1, sumN_add, sumN_1, if_pos hk]
theorem bfS_ok {s : QS} {k w : Nat} (hC : labC T lab) (hV : ∀ v, v < 121 → v % 2 = 0 → V0 v = true → lab v ≠ ro) (h : bfI T V0 lab ro s) (hk : k < 121) (he : k % 2 = 0) (hl : lab k = ro) (hw : w < 4) : bfI T V0 lab ro (bfS T k w s) ∧ s.2.2 ≤ (bfS T k w s).2.2 ∧ (∀ j, j < s.2.2 → (bfS T k w s).2.1 j = s.2.1 j) ∧ (∀ v, s.1 v = true → (bfS T k w s).1 v = true) ∧ (lft T (barN k w) = true → (bfS T k w s).1 (knN k w) = true) := by
  unfold bfS
  by_cases h1 : lft T (barN k w) = true
  · rw [if_pos h1]
    obtain ⟨b, hb, hT⟩ := lft_iff.mp h1
    obtain ⟨g1, g2, g3, g4, -⟩ := G1 hk he hw hb
    have hlk : lab (knN k w) = ro := (hC.1 k w hk he hw h1).trans hl
    by_cases h2 : s.1 (knN k w) = true
    · rw [if_pos h2]
      exact ⟨h, Nat.le_refl _, fun _ _ => rfl, fun _ q => q, fun _ => h2⟩
    · rw [if_neg h2]
      have hV0 : V0 (knN k w) = false := by
        cases hz : V0 (knN k w)
        · rfl
        · exact absurd hlk (hV _ g1 g2 hz)
      have h2 : s.1 (knN k w) = false := by
        cases hz : s.1 (knN k w)
        · rfl
        · exact absurd hz h2
      obtain ⟨p1, p2, p3, p4⟩ := bfI_push h g1 g2 hlk hV0 h2
      exact ⟨p1, by rw [p2]; omega, p3, fun v q => (p4 v).mpr (Or.inl q), fun _ => (p4 _).mpr (Or.inr rfl)⟩
  · rw [if_neg h1]
    exact ⟨h, Nat.le_refl _, fun _ _ => rfl, fun _ q => q, fun q => absurd q h1⟩
theorem bfW_ok {k : Nat} (hC : labC T lab) (hV : ∀ v, v < 121 → v % 2 = 0 → V0 v = true → lab v ≠ ro) (hk : k < 121) (he : k % 2 = 0) (hl : lab k = ro) : ∀ (n : Nat) (s : QS), n ≤ 4 → bfI T V0 lab ro s → bfI T V0 lab ro (bfW T k n s) ∧ s.2.2 ≤ (bfW T k n s).2.2 ∧ (∀ j, j < s.2.2 → (bfW T k n s).2.1 j = s.2.1 j) ∧ (∀ v, s.1 v = true → (bfW T k n s).1 v = true) ∧ (∀ w, w < n → lft T (barN k w) = true → (bfW T k n s).1 (knN k w) = true)
  | 0, s, _, h => ⟨h, Nat.le_refl _, fun _ _ => rfl, fun _ q => q, fun w hw => by omega⟩
  | n + 1, s, hn, h => by
    obtain ⟨a1, a2, a3, a4, a5⟩ := bfW_ok hC hV hk he hl n s (by omega) h
    obtain ⟨b1, b2, b3, b4, b5⟩ := bfS_ok hC hV a1 hk he hl (show n < 4 by omega)
    show bfI T V0 lab ro (bfS T k n (bfW T k n s)) ∧ _
    refine ⟨b1, Nat.le_trans a2 b2, fun j hj => ?_, fun v q => b4 v (a4 v q), fun w hw hl2 => ?_⟩
    · show (bfS T k n (bfW T k n s)).2.1 j = _
      rw [b3 j (by omega), a3 j hj]
    · by_cases e : w = n
      · rw [e] at hl2 ⊢
        exact b5 hl2
      · exact b4 _ (a5 w (by omega) hl2)
theorem bfO_ok (hC : labC T lab) (hV : ∀ v, v < 121 → v % 2 = 0 → V0 v = true → lab v ≠ ro) : ∀ (m next : Nat) (s : QS) (odd : Nat), m + next = 121 → next ≤ s.2.2 → bfI T V0 lab ro s → (∀ j w, j < next → w < 4 → lft T (barN (s.2.1 j) w) = true → s.1 (knN (s.2.1 j) w) = true) → odd = sumN (fun j => degN T (s.2.1 j) % 2) next →
    bfI T V0 lab ro (bfO T m next s odd).1 ∧ s.2.2 ≤ (bfO T m next s odd).1.2.2 ∧ (∀ j, j < s.2.2 → (bfO T m next s odd).1.2.1 j = s.2.1 j) ∧ (∀ j w, j < (bfO T m next s odd).1.2.2 → w < 4 → lft T (barN ((bfO T m next s odd).1.2.1 j) w) = true → (bfO T m next s odd).1.1 (knN ((bfO T m next s odd).1.2.1 j) w) = true) ∧ (bfO T m next s odd).2 = sumN (fun j => degN T ((bfO T m next s odd).1.2.1 j) % 2) (bfO T m next s odd).1.2.2
  | 0, next, s, odd, hm, hn, h, hcl, ho => by
    have hc := bfI_cnt h
    have e : next = s.2.2 := by omega
    show bfI T V0 lab ro s ∧ s.2.2 ≤ s.2.2 ∧ (∀ j, j < s.2.2 → s.2.1 j = s.2.1 j) ∧ (∀ j w, j < s.2.2 → w < 4 → lft T (barN (s.2.1 j) w) = true → s.1 (knN (s.2.1 j) w) = true) ∧ odd = _
    rw [e] at hcl ho
    exact ⟨h, Nat.le_refl _, fun _ _ => rfl, hcl, ho⟩
  | m + 1, next, s, odd, hm, hn, h, hcl, ho => by
    have hc := bfI_cnt h
    unfold bfO
    by_cases hlt : next < s.2.2 ∧ next < 121
    · rw [if_pos hlt]
      obtain ⟨k1, k2, k3, -⟩ := h.2.1 next hlt.1
      obtain ⟨a1, a2, a3, a4, a5⟩ := bfW_ok hC hV k1 k2 k3 4 s (Nat.le_refl _) h
      have hs2 : sumN (fun j => degN T (s.2.1 j) % 2) next = sumN (fun j => degN T ((bfW T (s.2.1 next) 4 s).2.1 j) % 2) next := sumN_congr (fun j hj => by
        show degN T (s.2.1 j) % 2 = degN T ((bfW T (s.2.1 next) 4 s).2.1 j) % 2
        rw [a3 j (by omega)])
      obtain ⟨b1, b2, b3, b4, b5⟩ := bfO_ok hC hV m (next + 1) (bfW T (s.2.1 next) 4 s) (odd + degN T (s.2.1 next) % 2) (by omega) (by omega) a1 (fun j w hj hw hl => by
        by_cases e : j = next
        · subst e
          rw [a3 j hlt.1] at hl ⊢
          exact a5 w hw hl
        · rw [a3 j (by omega)] at hl ⊢
          exact a4 _ (hcl j w (by omega) hw hl)) (by
        show _ = sumN _ next + degN T ((bfW T (s.2.1 next) 4 s).2.1 next) % 2
        rw [a3 next hlt.1, ho, hs2])
      exact ⟨b1, Nat.le_trans a2 b2, fun j hj => by rw [b3 j (by omega), a3 j hj], b4, b5⟩
    · rw [if_neg hlt]
      have e : next = s.2.2 := by omega
      rw [e] at hcl ho
      exact ⟨h, Nat.le_refl _, fun _ _ => rfl, hcl, ho⟩
/-- a whole part is reached -/
theorem bf_part {i : Nat} {Q : Nat → Nat} (hC : labC T lab) (hi : i < 121) (he : i % 2 = 0) (hd : 0 < degN T i) (hV : ∀ v, v < 121 → v % 2 = 0 → V0 v = true → lab v ≠ lab i) (hVi : V0 i = false) : (∀ v, v < 121 → v % 2 = 0 → ((bfO T 121 0 (qkS (V0, Q, 0) i) 0).1.1 v = true ↔ V0 v = true ∨ lab v = lab i)) ∧ (bfO T 121 0 (qkS (V0, Q, 0) i) 0).2 = oN T T lab (lab i) ∧ ∀ v, v < 121 → v % 2 = 0 → lab v = lab i → 0 < degN T v := by
  have h0 : bfI T V0 lab (lab i) (V0, Q, 0) := ⟨fun v => ⟨Or.inl, fun q => q.resolve_right (fun ⟨j, hj, _⟩ => absurd hj (Nat.not_lt_zero j))⟩, fun j hj => absurd hj (Nat.not_lt_zero j), fun f => by
    show 0 = sumN (fun v => if V0 v = true ∧ V0 v = false then f v else 0) 121
    rw [sumN_congr (f2 := fun _ => 0) (fun v _ => by
      show (if V0 v = true ∧ V0 v = false then f v else 0) = 0
      rw [if_neg (fun q => by rw [q.1] at q; cases q.2)]), sumN_0]⟩
  obtain ⟨p1, p2, p3, p4⟩ := bfI_push h0 hi he rfl hVi hVi
  obtain ⟨b1, b2, b3, b4, b5⟩ := bfO_ok hC hV 121 0 (qkS (V0, Q, 0) i) 0 rfl (Nat.zero_le _) p1 (fun j w hj => absurd hj (Nat.not_lt_zero j)) rfl
  obtain ⟨s, hs⟩ : ∃ s, s = (bfO T 121 0 (qkS (V0, Q, 0) i) 0).1 := ⟨_, rfl⟩
  obtain ⟨o, ho⟩ : ∃ o, o = (bfO T 121 0 (qkS (V0, Q, 0) i) 0).2 := ⟨_, rfl⟩
  rw [← hs] at b1 b2 b3 b4 b5 ⊢
  rw [← ho] at b5 ⊢
  have hdp : ∀ v, v < 121 → v % 2 = 0 → lab v = lab i → 0 < degN T v := fun v hv hev hl => by
    rcases Nat.eq_zero_or_pos (degN T v) with e | e
    · have := hC.2.2 v i hv hi hl (fun u => u = v) (fun u w hu heu hw hlf hp => by
        exfalso
        subst hp
        obtain ⟨b, hb, hT⟩ := lft_iff.mp hlf
        have := degN_pos.mpr ⟨w, hw, b, hb, hT⟩
        omega) rfl
      rw [this] at hd
      omega
    · exact e
  have hq : ∃ j, j < s.2.2 ∧ s.2.1 j = i := by
    rw [p2] at b2
    refine ⟨0, by show 0 < s.2.2; omega, ?_⟩
    rw [b3 0 (by rw [p2]; show 0 < 0 + 1; omega)]
    unfold qkS
    rw [if_pos (show (V0, Q, 0).2.2 < 121 by show 0 < 121; decide)]
    show updN Q 0 i 0 = i
    unfold updN
    rw [if_pos rfl]
  have hall : ∀ v, v < 121 → v % 2 = 0 → lab v = lab i → ∃ j, j < s.2.2 ∧ s.2.1 j = v := fun v hv hev hl => by
    refine hC.2.2 i v hi hv hl.symm (fun u => ∃ j, j < s.2.2 ∧ s.2.1 j = u) (fun u w hu heu hw hlf ⟨j, hj, hju⟩ => ?_) hq
    subst hju
    have h1 := b4 j w hj hw hlf
    obtain ⟨b, hb, hT⟩ := lft_iff.mp hlf
    obtain ⟨g1, g2, -⟩ := G1 hu heu hw hb
    rcases (b1.1 _).mp h1 with q | q
    · have := hV _ g1 g2 q
      rw [hC.1 _ w hu heu hw hlf, (b1.2.1 j hj).2.2.1] at this
      exact absurd rfl this
    · exact q
  refine ⟨fun v hv hev => ?_, ?_, hdp⟩
  · rw [b1.1 v]
    refine ⟨fun q => ?_, fun q => ?_⟩
    · rcases q with q | ⟨j, hj, e⟩
      · exact Or.inl q
      · rw [← e]
        exact Or.inr (b1.2.1 j hj).2.2.1
    · rcases q with q | q
      · exact Or.inl q
      · exact Or.inr (hall v hv hev q)
  · rw [b5, b1.2.2 (fun v => degN T v % 2)]
    refine sumN_congr (fun v hv => ?_)
    show (if s.1 v = true ∧ V0 v = false then degN T v % 2 else 0) = (if v % 2 = 0 ∧ lab v = lab i then degN T v % 2 else 0)
    by_cases q : v % 2 = 0 ∧ lab v = lab i
    · rw [if_pos q]
      obtain ⟨j, hj, e⟩ := hall v hv q.1 q.2
      rw [if_pos ⟨(b1.1 v).mpr (Or.inr ⟨j, hj, e⟩), by rw [← e]; exact (b1.2.1 j hj).2.2.2⟩]
    · rw [if_neg q, if_neg (fun q2 => q ?_)]
      rcases (b1.1 v).mp q2.1 with z | ⟨j, hj, e⟩
      · rw [q2.2] at z
        cases z
      · rw [← e]
        exact ⟨(b1.2.1 j hj).2.1, (b1.2.1 j hj).2.2.1⟩
end BFS
