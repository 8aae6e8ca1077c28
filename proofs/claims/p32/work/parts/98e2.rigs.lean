-- THE LAW'S HELPERS: rigHolds
theorem carL_0 {f : Int32} : ∀ n, carL f n 0 0 = 0
  | 0 => rfl
  | n + 1 => by
    show carL f n (0 * (100 - f).toInt64 / 100) (0 + 0) = 0
    have e : (0 : Int64) * (100 - f).toInt64 / 100 = 0 := by rw [Int64.zero_mul]; decide
    rw [e]
    exact carL_0 n
/-- the pull, as a number: it carries, a smaller one doesn't -/
theorem pl_num {S : St} {r L : Nat} (h : rigI S) (hr : r < S.nr) (hL : L ≤ 1000000) : ∃ p, p ≤ L ∧ plS S r (nI L) = nI p ∧ ∃ C : Nat → Nat, (∀ x, x ≤ 1000000 → carL (S.i 11 r) (S.1 2 r) (lN x) 0 = lN (C x) ∧ C x ≤ 6000000) ∧ L ≤ C p ∧ (∀ q, q < p → C q < L) ∧ C 0 = 0 := by
  sorry
