-- THE CLASS'S WORLD: a net is added
def bk2 (B : Bk) (n q q2 : Nat) : Bk := bkS (bkS B 3 n q) 4 n q2
theorem bk2_o {B : Bk} {n q q2 k : Nat} (h : k ≠ 3) (h2 : k ≠ 4) : bk2 B n q q2 k = B k := by unfold bk2; rw [bkS_o h2, bkS_o h]
theorem bk2_3 {B : Bk} {n q q2 i : Nat} : bk2 B n q q2 3 i = if i = n then q else B 3 i := by
  unfold bk2
  rw [bkS_o (by decide)]
  unfold bkS
  by_cases e : i = n
  · rw [if_pos e, if_pos ⟨rfl, e⟩]
  · rw [if_neg e, if_neg (fun c => e c.2)]
theorem bk2_4 {B : Bk} {n q q2 i : Nat} : bk2 B n q q2 4 i = if i = n then q2 else B 4 i := by
  unfold bk2
  by_cases e : i = n
  · rw [if_pos e, e, bkS_s]
  · rw [if_neg e, bkS_n e, bkS_o (by decide)]
theorem cntB_no : ∀ n, cntB (fun _ => false) n = 0
  | 0 => rfl
  | n + 1 => by unfold cntB; rw [cntB_no n]; rfl
theorem CW.addNet {B : Bk} {S : St} {g : HP} {q q2 rn cn : Nat} {ft : Nat → Int32} {fl : Nat → Option Nat} (h : CW B S g) (hn : S.nn < 5) (hq : g q = some (hO 4 [.int (nI rn), .int (nI cn), .ref q2, .int 0])) (hq2 : g q2 = some (hI 2 100 ft)) (hft : ∀ j, j < 100 → ft j = 0) (hqq : q ≠ q2) (hqo : ¬ own B S q) (hqo2 : ¬ own B S q2) (hfl : g (B 5 4) = some (hR 6 5 fl)) :
    CW (bk2 B S.nn q q2) (newN S rn cn) (hup (hup g (B 5 4) (hR 6 5 (va_up fl S.nn (some q)))) (B 5 0) (hO 6 (objL B (newN S rn cn)))) := by
  obtain ⟨h1, h2, h3, h4, h5, h6, h7, h8, h9⟩ := h
  unfold St.nn at hn ⊢
  obtain ⟨n, hnn⟩ : ∃ n, n = S.1 0 2 := ⟨_, rfl⟩
  rw [← hnn] at hn ⊢
  obtain ⟨o1, ho1⟩ : ∃ z, z = hR 6 5 (va_up fl n (some q)) := ⟨_, rfl⟩
  obtain ⟨o2, ho2⟩ : ∃ z, z = hO 6 (objL B (newN S rn cn)) := ⟨_, rfl⟩
  rw [← ho1, ← ho2]
  have hk : ∀ k i, vld S k i → (k ≠ 5 ∨ (i ≠ 0 ∧ i ≠ 4)) → hup (hup g (B 5 4) o1) (B 5 0) o2 (B k i) = g (B k i) := fun k i hv hne => by
    rw [hup_ow h8 (v5 (by decide)) hv (by omega), hup_ow h8 (v5 (by decide)) hv (by omega)]
  have hq0 : ∀ k i, vld S k i → q ≠ B k i := fun k i hv e => hqo ⟨k, i, hv, e⟩
  have hq02 : ∀ k i, vld S k i → q2 ≠ B k i := fun k i hv e => hqo2 ⟨k, i, hv, e⟩
  have hgq : hup (hup g (B 5 4) o1) (B 5 0) o2 q = some (hO 4 [.int (nI rn), .int (nI cn), .ref q2, .int 0]) := by rw [hup_n (hq0 5 0 (v5 (by decide))), hup_n (hq0 5 4 (v5 (by decide)))]; exact hq
  have hgq2 : hup (hup g (B 5 4) o1) (B 5 0) o2 q2 = some (hI 2 100 ft) := by rw [hup_n (hq02 5 0 (v5 (by decide))), hup_n (hq02 5 4 (v5 (by decide)))]; exact hq2
  have hB5 : bk2 B n q q2 5 = B 5 := bk2_o (by decide) (by decide)
  have hB1 : ∀ i, i < S.1 0 0 → bk2 B n q q2 1 i = B 1 i := fun i _ => by rw [bk2_o (by decide) (by decide)]
  have hl9 := h9.2.2.2.2.2.2.1
  have hr9 := h9.2.2.2.2.2.2.2
  unfold St.nl St.lk at hl9
  unfold St.nl St.nr at hr9
  have hnn1 : (newN S rn cn).nn = S.1 0 2 + 1 := by simp [newN, St.nn]
  refine ⟨?_, h2.tr hB5 (bk2_o (by decide) (by decide)) ⟨rfl, rfl⟩ (hk 5 1 (v5 (by decide)) (by omega)) (fun i hi => hk 0 i (v0 hi) (by omega)), h3.tr hB5 hB1 (by simp [newN]) (fun f hf => rfl) rfl hl9 (hk 5 2 (v5 (by decide)) (by omega)) (fun i hi => hk 1 i (v1 hi) (by omega)), h4.tr hB5 hB1 (fun i _ => by rw [bk2_o (by decide) (by decide)]) (by simp [newN]) ⟨funext fun i => by simp [newN], funext fun i => by simp [newN], rfl⟩ hr9 (hk 5 3 (v5 (by decide)) (by omega)) (fun i hi => hk 2 i (v2 hi) (by omega)), ?_, h6.tr hB5 ⟨by simp [newN], by simp [newN], funext fun i => by simp [newN], funext fun i => by simp [newN], rfl⟩ (fun i h5 hi => hk 5 i (v5 (by omega)) (by omega)), h7.tr hB5 (fun i h5 hi => hk 5 i (v5 (by omega)) (by omega)), ?_, ?_⟩
  · show hup (hup g (B 5 4) o1) (B 5 0) o2 (bk2 B n q q2 5 0) = some (hO 6 (objL (bk2 B n q q2) (newN S rn cn)))
    rw [hB5, hup_s, ho2]
    unfold objL
    rw [hB5]
  · refine ⟨⟨va_up fl n (some q), ?_, fun i hi => ?_⟩, fun i hi => ?_, fun i hi => ?_⟩
    · rw [hB5, hup_ow h8 (v5 (by decide)) (v5 (by decide)) (by omega), hup_s, ho1]
    · rw [hnn1]
      show (if i = n then some q else fl i) = if i < S.1 0 2 + 1 then some (bk2 B n q q2 3 i) else none
      obtain ⟨⟨f9, h10, h11⟩, -⟩ := h5
      rw [hfl] at h10
      have e9 : fl = f9 := by
        have := Option.some.inj h10
        unfold hR at this
        simpa using this
      rw [bk2_3]
      by_cases e : i = n
      · rw [if_pos e, if_pos (by omega), if_pos e]
      · rw [if_neg e, if_neg e, e9, h11 i hi]
        unfold St.nn
        by_cases e2 : i < S.1 0 2
        · rw [if_pos e2, if_pos (by omega)]
        · rw [if_neg e2, if_neg (by omega)]
    · rw [hnn1] at hi
      rw [bk2_3]
      by_cases e : i = n
      · rw [if_pos e, hgq]
        unfold netL
        have e1 : (newN S rn cn).1 5 i = rn := by simp [newN, hnn, e]
        have e2 : (newN S rn cn).1 6 i = cn := by simp [newN, hnn, e]
        have e3 : (newN S rn cn).tn i = (fun _ => false) := by simp [newN, hnn, St.tn, e]
        rw [e1, e2, e3, cntB_no, bk2_4, if_pos e]
        rfl
      · have hi2 : i < n := by omega
        rw [if_neg e, hk 3 i (v3 (by unfold St.nn; omega)) (by omega), h5.2.1 i (by unfold St.nn; omega)]
        unfold netL
        have e1 : (newN S rn cn).1 5 i = S.1 5 i := by simp [newN]; omega
        have e2 : (newN S rn cn).1 6 i = S.1 6 i := by simp [newN]; omega
        have e3 : (newN S rn cn).tn i = S.tn i := by simp [newN, St.tn]; omega
        rw [e1, e2, e3, bk2_4, if_neg e]
    · rw [hnn1] at hi
      rw [bk2_4]
      by_cases e : i = n
      · rw [if_pos e, hgq2]
        have e3 : (newN S rn cn).tn i = (fun _ => false) := by simp [newN, hnn, St.tn, e]
        rw [e3]
        exact ⟨ft, rfl, hft⟩
      · have e3 : (newN S rn cn).tn i = S.tn i := by simp [newN, St.tn]; omega
        rw [if_neg e, hk 4 i (v4 (by unfold St.nn; omega)) (by omega), e3]
        exact h5.2.2 i (by unfold St.nn; omega)
  · have hv2 : ∀ k i, vld (newN S rn cn) k i → vld S k i ∨ (k = 3 ∧ i = n) ∨ (k = 4 ∧ i = n) := fun k i hv => by
      rcases hv with ⟨a, b⟩ | ⟨a, b⟩ | ⟨a, b⟩ | ⟨a, b⟩ | ⟨a, b⟩ | ⟨a, b⟩
      · exact Or.inl (Or.inl ⟨a, b⟩)
      · have b : i < S.1 0 0 := by simpa [newN, St.nl] using b
        exact Or.inl (by rw [a]; exact v1 b)
      · have b : i < S.1 0 1 := by simpa [newN, St.nr] using b
        exact Or.inl (by rw [a]; exact v2 b)
      · have b : i < S.1 0 2 + 1 := by simpa [newN, St.nn] using b
        by_cases e : i = n
        · exact Or.inr (Or.inl ⟨a, e⟩)
        · exact Or.inl (by rw [a]; exact v3 (by unfold St.nn; omega))
      · have b : i < S.1 0 2 + 1 := by simpa [newN, St.nn] using b
        by_cases e : i = n
        · exact Or.inr (Or.inr ⟨a, e⟩)
        · exact Or.inl (by rw [a]; exact v4 (by unfold St.nn; omega))
      · exact Or.inl (by rw [a]; exact v5 b)
    have hbk : ∀ k i, vld S k i → bk2 B n q q2 k i = B k i := fun k i hv => by
      by_cases e : k = 3
      · rcases hv with ⟨a, b⟩ | ⟨a, b⟩ | ⟨a, b⟩ | ⟨a, b⟩ | ⟨a, b⟩ | ⟨a, b⟩ <;> try omega
        rw [e, bk2_3, if_neg (by unfold St.nn at b; omega)]
      · by_cases e4 : k = 4
        · rcases hv with ⟨a, b⟩ | ⟨a, b⟩ | ⟨a, b⟩ | ⟨a, b⟩ | ⟨a, b⟩ | ⟨a, b⟩ <;> try omega
          rw [e4, bk2_4, if_neg (by unfold St.nn at b; omega)]
        · rw [bk2_o e e4]
    intro k i k2 i2 hv hw e
    rcases hv2 k i hv with hv | ⟨rfl, rfl⟩ | ⟨rfl, rfl⟩ <;> rcases hv2 k2 i2 hw with hw | ⟨rfl, rfl⟩ | ⟨rfl, rfl⟩
    · rw [hbk k i hv, hbk k2 i2 hw] at e
      exact h8 k i k2 i2 hv hw e
    · rw [hbk k i hv, bk2_3, if_pos rfl] at e
      exact absurd e.symm (hq0 k i hv)
    · rw [hbk k i hv, bk2_4, if_pos rfl] at e
      exact absurd e.symm (hq02 k i hv)
    · rw [hbk k2 i2 hw, bk2_3, if_pos rfl] at e
      exact absurd e (hq0 k2 i2 hw)
    · exact ⟨rfl, rfl⟩
    · rw [bk2_3, bk2_4, if_pos rfl, if_pos rfl] at e
      exact absurd e hqq
    · rw [hbk k2 i2 hw, bk2_4, if_pos rfl] at e
      exact absurd e (hq02 k2 i2 hw)
    · rw [bk2_3, bk2_4, if_pos rfl, if_pos rfl] at e
      exact absurd e.symm hqq
    · exact ⟨rfl, rfl⟩
  · obtain ⟨z1, z2, z3, z4, z5, z6, z7, z8⟩ := h9
    unfold St.nl at z1
    unfold St.nr at z2
    unfold St.ca at z4 z5
    unfold St.cr at z6
    refine ⟨by simp [newN, St.nl]; omega, by simp [newN, St.nr]; omega, by simp [newN, St.nn]; omega, by simp [newN, St.ca]; omega, by simp [newN, St.ca]; omega, by simp [newN, St.cr]; omega, fun f i j hi hj => ?_, fun r9 hr2 => ?_⟩
    · have hi : i < S.1 0 0 := by simpa [newN, St.nl] using hi
      have := hl9 f i j hi hj
      simpa [newN, St.nl] using this
    · have hr2 : r9 < S.1 0 1 := by simpa [newN, St.nr] using hr2
      have e0 : (newN S rn cn).nl = S.1 0 0 := by simp [newN, St.nl]
      rw [e0]
      have e1 : (newN S rn cn).1 1 r9 = S.1 1 r9 := by simp [newN]
      rw [e1]
      exact hr9 r9 (by omega)
theorem stp_net {B : Bk} {S : St} {rn cn : Nat} {g g2 : HP} {q q2 : Nat} (hq : g q = none) (hq2 : g q2 = none) (h : ∀ a, a ≠ q → a ≠ q2 → ¬ own B S a → g2 a = g a) : StpC B S (bk2 B S.nn q q2) (newN S rn cn) g g2 := by
  refine ⟨fun a ha hno => h a (fun e => ha (by rw [e]; exact hq)) (fun e => ha (by rw [e]; exact hq2)) hno, fun a ⟨k, i, hv, e⟩ => ?_⟩
  by_cases e9 : k = 3 ∧ i = S.nn
  · rw [e, e9.1, e9.2, bk2_3, if_pos rfl]
    exact Or.inr hq
  · by_cases e8 : k = 4 ∧ i = S.nn
    · rw [e, e8.1, e8.2, bk2_4, if_pos rfl]
      exact Or.inr hq2
    · refine Or.inl ⟨k, i, ?_, ?_⟩
      · rcases hv with ⟨a, b⟩ | ⟨a, b⟩ | ⟨a, b⟩ | ⟨a, b⟩ | ⟨a, b⟩ | ⟨a, b⟩
        · exact Or.inl ⟨a, b⟩
        · rw [a]; exact v1 (by simpa [newN, St.nl] using b)
        · rw [a]; exact v2 (by simpa [newN, St.nr] using b)
        · have b : i < S.1 0 2 + 1 := by simpa [newN, St.nn] using b
          rw [a]
          exact v3 (by unfold St.nn at e9 ⊢; omega)
        · have b : i < S.1 0 2 + 1 := by simpa [newN, St.nn] using b
          rw [a]
          exact v4 (by unfold St.nn at e8 ⊢; omega)
        · rw [a]; exact v5 b
      · rw [e]
        unfold bk2 bkS
        rw [if_neg e8, if_neg e9]
