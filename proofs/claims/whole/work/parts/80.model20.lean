-- THE MODEL'S BARS: one is torn
def tn3 (S : St) (n r c w : Nat) : Bool := decide (n < S.1 0 2) && (decide ((r + c) % 2 = 0) && (if w = 1 then decide (c < 10) && S.2.2.1 n (10 * r + c) else decide (1 ≤ c) && S.2.2.1 n (10 * r + c - 1)))
theorem tnM_3 {S : St} {k : Nat} : tnM S k = tn3 S (k / 220) (k % 220 / 22) (k % 22 / 2) (k % 2) := rfl
theorem tn3_set {S : St} {i p q w b n r c v : Nat} (hi : i < S.1 0 2) (hp : p < 10) (hpq : (p + q) % 2 = 0) (hw : (w = 1 ∧ q < 10 ∧ b = 10 * p + q) ∨ (w = 0 ∧ 1 ≤ q ∧ q ≤ 10 ∧ b + 1 = 10 * p + q)) (hv : v < 2) (hr : r < 10) (hc : c ≤ 10) : tn3 (stT S i (setB (S.tn i) b)) n r c v = (if n = i ∧ r = p ∧ c = q ∧ v = w then true else tn3 S n r c v) := by
  have e0 : (stT S i (setB (S.tn i) b)).1 0 2 = S.1 0 2 := rfl
  unfold tn3
  rw [e0]
  by_cases hn : n = i
  · subst hn
    have e1 : (stT S n (setB (S.tn n) b)).2.2.1 n = setB (S.tn n) b := by simp [stT]
    rw [e1]
    by_cases hk : r = p ∧ c = q ∧ v = w
    · obtain ⟨rfl, rfl, rfl⟩ := hk
      refine Eq.trans ?_ (if_pos ⟨rfl, rfl, rfl, rfl⟩).symm
      rw [decide_eq_true hi, decide_eq_true hpq]
      rcases hw with ⟨h1, h2, h3⟩ | ⟨h1, h2, h3, h4⟩
      · subst h1 h3
        simp [setB, h2]
      · subst h1
        have : 10 * r + c - 1 = b := by omega
        simp [setB, h2, this]
    · refine Eq.trans ?_ (if_neg (fun h => hk h.2)).symm
      rw [decide_eq_true hi]
      by_cases hpar : (r + c) % 2 = 0
      · rw [decide_eq_true hpar]
        by_cases hv1 : v = 1
        · subst hv1
          by_cases hc10 : c < 10
          · have : ¬ 10 * r + c = b := fun e => by
              rcases hw with ⟨h1, h2, h3⟩ | ⟨h1, h2, h3, h4⟩
              · apply hk; omega
              · omega
            simp [setB, this, hc10, St.tn]
          · simp [hc10]
        · have hv0 : v = 0 := by omega
          subst hv0
          by_cases hc1 : 1 ≤ c
          · have : ¬ 10 * r + c - 1 = b := fun e => by
              rcases hw with ⟨h1, h2, h3⟩ | ⟨h1, h2, h3, h4⟩
              · omega
              · apply hk; omega
            simp [setB, this, hc1, St.tn]
          · simp [hc1]
      · rw [decide_eq_false hpar]
        simp
  · have e1 : (stT S i (setB (S.tn i) b)).2.2.1 n = S.2.2.1 n := by simp [stT, hn]
    rw [e1]
    exact (if_neg (fun h => hn h.1)).symm
theorem tnM_set {S : St} {i p q w b k : Nat} (hi : i < S.1 0 2) (hp : p < 10) (hpq : (p + q) % 2 = 0) (hw : (w = 1 ∧ q < 10 ∧ b = 10 * p + q) ∨ (w = 0 ∧ 1 ≤ q ∧ q ≤ 10 ∧ b + 1 = 10 * p + q)) (hk : k < 1100) : tnM (stT S i (setB (S.tn i) b)) k = (if k = 220 * i + 22 * p + 2 * q + w then true else tnM S k) := by
  rw [tnM_3, tnM_3, tn3_set hi hp hpq hw (by omega) (by omega) (by omega)]
  have hq : q ≤ 10 := by omega
  have hw2 : w < 2 := by omega
  have hb : 2 * q + w ≤ 20 := by omega
  by_cases e : k = 220 * i + 22 * p + 2 * q + w
  · have e1 : k % 220 = 22 * p + (2 * q + w) := by omega
    have e2 : k / 220 = i := by omega
    have e3 : k % 220 / 22 = p := by rw [e1]; omega
    have e4 : k % 22 = 2 * q + w := by omega
    have e5 : k % 22 / 2 = q := by rw [e4]; omega
    have e6 : k % 2 = w := by omega
    rw [if_pos e]
    exact if_pos ⟨e2, e3, e5, e6⟩
  · rw [if_neg e]
    refine if_neg (fun h => e ?_)
    obtain ⟨h1, h2, h3, h4⟩ := h
    have e7 : k % 22 = k % 220 % 22 := by omega
    have e8 : k % 220 = 22 * (k % 220 / 22) + k % 220 % 22 := by omega
    have e9 : k = 220 * (k / 220) + k % 220 := by omega
    have e10 : k % 22 % 2 = k % 2 := by omega
    have e11 : k % 22 = 2 * (k % 22 / 2) + k % 22 % 2 := by omega
    rw [h1] at e9
    rw [h2, ← e7, e11, h3, e10, h4] at e8
    omega
