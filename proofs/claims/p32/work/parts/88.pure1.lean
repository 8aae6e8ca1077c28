-- PURE: the two counts of torn bars are one
def psiC (r c : Nat) : Nat := min 10 (if (r + c) % 2 = 1 then c else c - 1)
theorem tnM_rc {S : St} {i r c v : Nat} (hi : i < S.nn) (hr : r < 10) (hc : c ≤ 10) (hv : v < 2) : tnM S (220 * i + (22 * r + (2 * c + v))) = (if (r + c) % 2 = 0 then (if v = 1 then decide (c < 10) && S.tn i (10 * r + c) else decide (1 ≤ c) && S.tn i (10 * r + c - 1)) else false) := by
  obtain ⟨k, hk⟩ : ∃ k, k = 220 * i + (22 * r + (2 * c + v)) := ⟨_, rfl⟩
  rw [← hk]
  have e1 : k % 220 = 22 * r + (2 * c + v) := by omega
  have e2 : k / 220 = i := by omega
  have e3 : k % 220 / 22 = r := by rw [e1]; omega
  have e4 : k % 22 = 2 * c + v := by omega
  have e5 : k % 22 / 2 = c := by rw [e4]; omega
  have e6 : k % 2 = v := by omega
  rw [tnM_3, e2, e3, e5, e6]
  unfold tn3
  rw [decide_eq_true (show i < S.1 0 2 from hi), Bool.true_and]
  by_cases hp : (r + c) % 2 = 0
  · rw [decide_eq_true hp, Bool.true_and, if_pos hp]
  · rw [decide_eq_false hp, Bool.false_and, if_neg hp]
theorem cntB_1 {T : Nat → Bool} {n : Nat} : cntB T (n + 1) = cntB T n + (if T n = true then 1 else 0) := rfl
theorem cnt_row {S : St} {i r : Nat} (hi : i < S.nn) (hr : r < 10) (h0 : cntM2 (tnM S) (220 * i) (22 * r) = cntB (S.tn i) (10 * r)) : ∀ c, c ≤ 11 → cntM2 (tnM S) (220 * i) (22 * r + 2 * c) = cntB (S.tn i) (10 * r + psiC r c)
  | 0, _ => by
    have : psiC r 0 = 0 := by unfold psiC; split <;> omega
    rw [this]
    exact h0
  | c + 1, hc => by
    have ih := cnt_row hi hr h0 c (by omega)
    have e0 : cntM2 (tnM S) (220 * i) (22 * r + 2 * (c + 1)) = cntM2 (tnM S) (220 * i) (22 * r + 2 * c) + (if tnM S (220 * i + (22 * r + (2 * c + 0))) = true then 1 else 0) + (if tnM S (220 * i + (22 * r + (2 * c + 1))) = true then 1 else 0) := rfl
    rw [e0, ih, tnM_rc hi hr (by omega) (by decide), tnM_rc hi hr (by omega) (by decide), if_neg (show ¬ (0 : Nat) = 1 by decide), if_pos (show (1 : Nat) = 1 from rfl)]
    by_cases hp : (r + c) % 2 = 0
    · rw [if_pos hp, if_pos hp]
      rcases Nat.eq_zero_or_pos c with e | e
      · subst e
        have e1 : psiC r 0 = 0 := by unfold psiC; split <;> omega
        have e2 : psiC r (0 + 1) = 1 := by unfold psiC; rw [if_pos (by omega)]; rfl
        rw [e1, e2, decide_eq_false (show ¬ 1 ≤ 0 by decide), decide_eq_true (show 0 < 10 by decide), Bool.false_and, Bool.true_and, if_neg (show ¬ false = true by decide), cntB_1]
        rfl
      · have e1 : psiC r c = c - 1 := by unfold psiC; rw [if_neg (by omega)]; omega
        by_cases h10 : c < 10
        · have e2 : psiC r (c + 1) = c + 1 := by unfold psiC; rw [if_pos (by omega)]; omega
          rw [e1, e2, decide_eq_true (show 1 ≤ c by omega), decide_eq_true h10, Bool.true_and, Bool.true_and, show 10 * r + (c + 1) = (10 * r + c) + 1 by omega, cntB_1, show 10 * r + c = (10 * r + c - 1) + 1 by omega, cntB_1]
          rw [show 10 * r + (c - 1) = 10 * r + c - 1 by omega, show (10 * r + c - 1) + 1 - 1 = 10 * r + c - 1 by omega]
        · have e2 : psiC r (c + 1) = 10 := by unfold psiC; rw [if_pos (by omega)]; omega
          have hc10 : c = 10 := by omega
          subst hc10
          rw [e1, e2, decide_eq_true (show 1 ≤ 10 by decide), decide_eq_false (show ¬ 10 < 10 by decide), Bool.true_and, Bool.false_and, if_neg (show ¬ false = true by decide), show 10 * r + 10 = (10 * r + 9) + 1 by omega, cntB_1]
          rfl
    · rw [if_neg hp, if_neg hp, if_neg (show ¬ false = true by decide)]
      have e1 : psiC r (c + 1) = psiC r c := by unfold psiC; rw [if_neg (by omega), if_pos (by omega)]; omega
      rw [e1]
      rfl
theorem hcnt_all (S2 : St) (i : Nat) (hi : i < S2.nn) : cntM2 (tnM S2) (220 * i) 220 = cntB (S2.tn i) 100 := by
  have h : ∀ r, r ≤ 10 → cntM2 (tnM S2) (220 * i) (22 * r) = cntB (S2.tn i) (10 * r) := by
    intro r
    induction r with
    | zero => intro _; rfl
    | succ r ih =>
      intro hr
      have := cnt_row hi (by omega) (ih (by omega)) 11 (Nat.le_refl _)
      have e : psiC r 11 = 10 := by unfold psiC; split <;> omega
      rw [e] at this
      rw [show 22 * (r + 1) = 22 * r + 2 * 11 by omega, this, show 10 * (r + 1) = 10 * r + 10 by omega]
  exact h 10 (Nat.le_refl _)
