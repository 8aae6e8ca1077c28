-- THE CLASS'S WORLD: a rig and a net are added
theorem CW.addRig {B : Bk} {S : St} {g : HP} {q li pn : Nat} {fr : Int32} {fl : Nat → Option Nat} (h : CW B S g) (hn : S.nr < 12) (hli : li < S.nl) (hq : g q = some (hO 5 [.ref (B 1 li), .int (nI pn), .int fr])) (hqo : ¬ own B S q) (hfl : g (B 5 3) = some (hR 5 12 fl)) :
    CW (bkS B 2 S.nr q) (newR S li pn fr) (hup (hup g (B 5 3) (hR 5 12 (va_up fl S.nr (some q)))) (B 5 0) (hO 6 (objL B (newR S li pn fr)))) := by
  obtain ⟨h1, h2, h3, h4, h5, h6, h7, h8, h9⟩ := h
  unfold St.nl at hli
  unfold St.nr at hn ⊢
  obtain ⟨n, hnn⟩ : ∃ n, n = S.1 0 1 := ⟨_, rfl⟩
  rw [← hnn] at hn ⊢
  obtain ⟨o1, ho1⟩ : ∃ z, z = hR 5 12 (va_up fl n (some q)) := ⟨_, rfl⟩
  obtain ⟨o2, ho2⟩ : ∃ z, z = hO 6 (objL B (newR S li pn fr)) := ⟨_, rfl⟩
  rw [← ho1, ← ho2]
  have hk : ∀ k i, vld S k i → (k ≠ 5 ∨ (i ≠ 0 ∧ i ≠ 3)) → hup (hup g (B 5 3) o1) (B 5 0) o2 (B k i) = g (B k i) := fun k i hv hne => by
    rw [hup_ow h8 (v5 (by decide)) hv (by omega), hup_ow h8 (v5 (by decide)) hv (by omega)]
  have hq0 : ∀ k i, vld S k i → q ≠ B k i := fun k i hv e => hqo ⟨k, i, hv, e⟩
  have hgq : hup (hup g (B 5 3) o1) (B 5 0) o2 q = some (hO 5 [.ref (B 1 li), .int (nI pn), .int fr]) := by rw [hup_n (hq0 5 0 (v5 (by decide))), hup_n (hq0 5 3 (v5 (by decide)))]; exact hq
  have hB5 : bkS B 2 n q 5 = B 5 := bkS_o (by decide)
  have hB1 : ∀ i, i < S.1 0 0 → bkS B 2 n q 1 i = B 1 i := fun i _ => by rw [bkS_o (by decide)]
  have hl9 := h9.2.2.2.2.2.2.1
  have hr9 := h9.2.2.2.2.2.2.2
  unfold St.nl St.lk at hl9
  unfold St.nl St.nr at hr9
  refine ⟨?_, h2.tr hB5 (bkS_o (by decide)) ⟨funext fun i => by simp [newR], funext fun i => by simp [newR]⟩ (hk 5 1 (v5 (by decide)) (by omega)) (fun i hi => hk 0 i (v0 hi) (by omega)), h3.tr hB5 hB1 (by simp [newR]) (fun f hf => funext fun i => by simp [newR]; omega) rfl hl9 (hk 5 2 (v5 (by decide)) (by omega)) (fun i hi => hk 1 i (v1 hi) (by omega)), ?_, h5.tr hB5 (fun i _ => by rw [bkS_o (by decide)]) (fun i _ => by rw [bkS_o (by decide)]) (by simp [newR]) ⟨funext fun i => by simp [newR], funext fun i => by simp [newR], rfl⟩ (hk 5 4 (v5 (by decide)) (by omega)) (fun i hi => ⟨hk 3 i (v3 hi) (by omega), hk 4 i (v4 hi) (by omega)⟩), h6.tr hB5 ⟨by simp [newR], by simp [newR], funext fun i => by simp [newR], funext fun i => by simp [newR], funext fun i => by simp [newR]⟩ (fun i h5 hi => hk 5 i (v5 (by omega)) (by omega)), h7.tr hB5 (fun i h5 hi => hk 5 i (v5 (by omega)) (by omega)), ?_, ?_⟩
  · show hup (hup g (B 5 3) o1) (B 5 0) o2 (bkS B 2 n q 5 0) = some (hO 6 (objL (bkS B 2 n q) (newR S li pn fr)))
    rw [hB5, hup_s, ho2]
    unfold objL
    rw [hB5]
  · refine ⟨⟨va_up fl n (some q), ?_, fun i hi => ?_⟩, fun i hi => ?_⟩
    · rw [hB5, hup_ow h8 (v5 (by decide)) (v5 (by decide)) (by omega), hup_s, ho1]
    · have hnr : (newR S li pn fr).nr = S.1 0 1 + 1 := by simp [newR, St.nr]
      rw [hnr]
      show (if i = n then some q else fl i) = if i < S.1 0 1 + 1 then some (bkS B 2 n q 2 i) else none
      obtain ⟨⟨f9, h10, h11⟩, -⟩ := h4
      rw [hfl] at h10
      have e9 : fl = f9 := by
        have := Option.some.inj h10
        unfold hR at this
        simpa using this
      by_cases e : i = n
      · rw [if_pos e, if_pos (by omega), e, bkS_s]
      · rw [if_neg e, e9, h11 i hi]
        unfold St.nr
        by_cases e2 : i < S.1 0 1
        · rw [if_pos e2, if_pos (by omega), bkS_n e]
        · rw [if_neg e2, if_neg (by omega)]
    · have hnr : (newR S li pn fr).nr = S.1 0 1 + 1 := by simp [newR, St.nr]
      rw [hnr] at hi
      by_cases e : i = n
      · rw [e, bkS_s, hgq]
        unfold rigL
        have e1 : (newR S li pn fr).1 1 n = li := by simp [newR, hnn]
        have e2 : (newR S li pn fr).1 2 n = pn := by simp [newR, hnn]
        have e3 : (newR S li pn fr).i 11 n = fr := by simp [newR, hnn, St.i]
        rw [e1, e2, e3, bkS_o (by decide)]
      · have hi2 : i < n := by omega
        rw [bkS_n e, hk 2 i (v2 (by unfold St.nr; omega)) (by omega), h4.2 i (by unfold St.nr; omega)]
        unfold rigL
        have e1 : (newR S li pn fr).1 1 i = S.1 1 i := by simp [newR]; omega
        have e2 : (newR S li pn fr).1 2 i = S.1 2 i := by simp [newR]; omega
        have e3 : (newR S li pn fr).i 11 i = S.i 11 i := by simp [newR, St.i]; omega
        rw [e1, e2, e3, bkS_o (by decide)]
  · have hv2 : ∀ k i, vld (newR S li pn fr) k i → vld S k i ∨ (k = 2 ∧ i = n) := fun k i hv => by
      rcases hv with ⟨a, b⟩ | ⟨a, b⟩ | ⟨a, b⟩ | ⟨a, b⟩ | ⟨a, b⟩ | ⟨a, b⟩
      · exact Or.inl (Or.inl ⟨a, b⟩)
      · have b : i < S.1 0 0 := by simpa [newR, St.nl] using b
        exact Or.inl (by rw [a]; exact v1 b)
      · have b : i < S.1 0 1 + 1 := by simpa [newR, St.nr] using b
        by_cases e : i = n
        · exact Or.inr ⟨a, e⟩
        · exact Or.inl (by rw [a]; exact v2 (by unfold St.nr; omega))
      · have b : i < S.1 0 2 := by simpa [newR, St.nn] using b
        exact Or.inl (by rw [a]; exact v3 b)
      · have b : i < S.1 0 2 := by simpa [newR, St.nn] using b
        exact Or.inl (by rw [a]; exact v4 b)
      · exact Or.inl (by rw [a]; exact v5 b)
    have hbk : ∀ k i, vld S k i → bkS B 2 n q k i = B k i := fun k i hv => by
      by_cases e : k = 2
      · rcases hv with ⟨a, b⟩ | ⟨a, b⟩ | ⟨a, b⟩ | ⟨a, b⟩ | ⟨a, b⟩ | ⟨a, b⟩ <;> try omega
        rw [e]
        exact bkS_n (by unfold St.nr at b; omega)
      · rw [bkS_o e]
    intro k i k2 i2 hv hw e
    rcases hv2 k i hv with hv | ⟨rfl, rfl⟩ <;> rcases hv2 k2 i2 hw with hw | ⟨rfl, rfl⟩
    · rw [hbk k i hv, hbk k2 i2 hw] at e
      exact h8 k i k2 i2 hv hw e
    · rw [hbk k i hv, bkS_s] at e
      exact absurd e.symm (hq0 k i hv)
    · rw [hbk k2 i2 hw, bkS_s] at e
      exact absurd e (hq0 k2 i2 hw)
    · exact ⟨rfl, rfl⟩
  · obtain ⟨z1, z2, z3, z4, z5, z6, z7, z8⟩ := h9
    unfold St.nl at z1
    unfold St.nn at z3
    unfold St.ca at z4 z5
    unfold St.cr at z6
    refine ⟨by simp [newR, St.nl]; omega, by simp [newR, St.nr]; omega, by simp [newR, St.nn]; omega, by simp [newR, St.ca]; omega, by simp [newR, St.ca]; omega, by simp [newR, St.cr]; omega, fun f i j hi hj => ?_, fun r9 hr2 => ?_⟩
    · have hi : i < S.1 0 0 := by simpa [newR, St.nl] using hi
      have := hl9 f i j hi hj
      simpa [newR, St.nl] using this
    · have hr2 : r9 < S.1 0 1 + 1 := by simpa [newR, St.nr] using hr2
      have e0 : (newR S li pn fr).nl = S.1 0 0 := by simp [newR, St.nl]
      rw [e0]
      by_cases e : r9 = n
      · have e1 : (newR S li pn fr).1 1 r9 = li := by simp [newR, hnn, e]
        rw [e1]
        exact hli
      · have e1 : (newR S li pn fr).1 1 r9 = S.1 1 r9 := by simp [newR]; omega
        rw [e1]
        exact hr9 r9 (by omega)
theorem stp_rig {B : Bk} {S : St} {li pn : Nat} {fr : Int32} {g g2 : HP} {q : Nat} (hq : g q = none) (h : ∀ a, a ≠ q → ¬ own B S a → g2 a = g a) : StpC B S (bkS B 2 S.nr q) (newR S li pn fr) g g2 := by
  refine ⟨fun a ha hno => h a (fun e => ha (by rw [e]; exact hq)) hno, fun a ⟨k, i, hv, e⟩ => ?_⟩
  by_cases e9 : k = 2 ∧ i = S.nr
  · rw [e, e9.1, e9.2, bkS_s]
    exact Or.inr hq
  · refine Or.inl ⟨k, i, ?_, ?_⟩
    · rcases hv with ⟨a, b⟩ | ⟨a, b⟩ | ⟨a, b⟩ | ⟨a, b⟩ | ⟨a, b⟩ | ⟨a, b⟩
      · exact Or.inl ⟨a, b⟩
      · rw [a]; exact v1 (by simpa [newR, St.nl] using b)
      · have b : i < S.1 0 1 + 1 := by simpa [newR, St.nr] using b
        rw [a]
        exact v2 (by unfold St.nr at e9 ⊢; omega)
      · rw [a]; exact v3 (by simpa [newR, St.nn] using b)
      · rw [a]; exact v4 (by simpa [newR, St.nn] using b)
      · rw [a]; exact v5 b
    · rw [e]
      unfold bkS
      rw [if_neg e9]
