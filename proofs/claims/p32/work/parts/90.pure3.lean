-- PURE: sums, labels, parts
theorem sumN_add {f f2 : Nat → Nat} : ∀ n, sumN (fun v => f v + f2 v) n = sumN f n + sumN f2 n
  | 0 => rfl
  | n + 1 => by
    show sumN (fun v => f v + f2 v) n + (f n + f2 n) = (sumN f n + f n) + (sumN f2 n + f2 n)
    rw [sumN_add n]
    omega
theorem sumN_0 : ∀ n, sumN (fun _ => 0) n = 0
  | 0 => rfl
  | n + 1 => by
    show sumN (fun _ => 0) n + 0 = 0
    rw [sumN_0 n]
theorem sumN_1 {a x : Nat} : ∀ n, sumN (fun v => if v = a then x else 0) n = if a < n then x else 0
  | 0 => by rw [if_neg (by omega)]; rfl
  | n + 1 => by
    show sumN (fun v => if v = a then x else 0) n + (if n = a then x else 0) = _
    rw [sumN_1 n]
    by_cases e : n = a
    · subst e
      rw [if_neg (by omega), if_pos rfl, if_pos (by omega)]
      omega
    · rw [if_neg e]
      by_cases h : a < n
      · rw [if_pos h, if_pos (by omega)]
        rfl
      · rw [if_neg h, if_neg (by omega)]
theorem sumN_le {f f2 : Nat → Nat} : ∀ {n : Nat}, (∀ v, v < n → f v ≤ f2 v) → sumN f n ≤ sumN f2 n
  | 0, _ => Nat.le_refl _
  | n + 1, h => by
    show sumN f n + f n ≤ sumN f2 n + f2 n
    have := sumN_le (f := f) (f2 := f2) (n := n) (fun v hv => h v (by omega))
    have := h n (by omega)
    omega
theorem sumN_c {x : Nat} : ∀ n, sumN (fun _ => x) n = n * x
  | 0 => by rw [Nat.zero_mul]; rfl
  | n + 1 => by
    show sumN (fun _ => x) n + x = _
    rw [sumN_c n, Nat.succ_mul]
theorem sumN_term {f : Nat → Nat} {k : Nat} : ∀ {n : Nat}, k < n → f k ≤ sumN f n
  | 0, h => by omega
  | n + 1, h => by
    show f k ≤ sumN f n + f n
    by_cases e : k = n
    · rw [e]; omega
    · have := sumN_term (f := f) (k := k) (n := n) (by omega)
      omega
theorem sumN_pos {f : Nat → Nat} : ∀ {n : Nat}, 0 < sumN f n → ∃ k, k < n ∧ 0 < f k
  | 0, h => absurd h (Nat.lt_irrefl 0)
  | n + 1, h => by
    have h : 0 < sumN f n + f n := h
    by_cases e : 0 < f n
    · exact ⟨n, by omega, e⟩
    · obtain ⟨k, h1, h2⟩ := sumN_pos (f := f) (n := n) (by omega)
      exact ⟨k, by omega, h2⟩
/-- labels in the class's words -/
def cls (T : Nat → Bool) (P : Nat → Prop) : Prop := ∀ v w, v < 121 → v % 2 = 0 → w < 4 → lft T (barN v w) = true → P v → P (knN v w)
def labC (T : Nat → Bool) (lab : Nat → Nat) : Prop := (∀ v w, v < 121 → v % 2 = 0 → w < 4 → lft T (barN v w) = true → lab (knN v w) = lab v) ∧ (∀ v, v < 121 → lab v < 121) ∧ ∀ u v, u < 121 → v < 121 → lab u = lab v → ∀ P, cls T P → P u → P v
theorem labC_of {S : St} {i : Nat} {lab : Nat → Nat} (hi : i < S.nn) (h : labO (fun k => tnM S (220 * i + k)) lab) : labC (S.tn i) lab := by
  have hcl : ∀ P, cls (S.tn i) P → clsM (fun k => tnM S (220 * i + k)) P := fun P hP k hk hT => by
    have hT : tnM S (220 * i + k) = true := hT
    rw [tnM_bk hi hk, Bool.and_eq_true] at hT
    obtain ⟨h1, h2, h3, h4, h5, w, hw, hb, hkn⟩ := G4 hk hT.1
    obtain ⟨g1, g2, g3, g4, w2, hw2, hb2, hkn2⟩ := G1 h1 h3 hw hb
    refine ⟨fun hp => ?_, fun hp => ?_⟩
    · rw [← hkn]
      exact hP _ w h1 h3 hw (lft_iff.mpr ⟨_, hb, hT.2⟩) hp
    · rw [← hkn2]
      rw [hkn] at hb2 hkn2 ⊢
      exact hP _ w2 h2 h4 hw2 (lft_iff.mpr ⟨_, hb2, hT.2⟩) hp
  refine ⟨fun v w hv he hw hl => ?_, fun v hv => (h.1 v hv).1, fun u v hu hv e P hP hp => ?_⟩
  · obtain ⟨b, hb, hT⟩ := lft_iff.mp hl
    obtain ⟨k, hk, ho, hbk, hud⟩ := G5 hv he hw hb
    have := h.2 k hk (by show tnM S (220 * i + k) = true; rw [tnM_bk hi hk, ho, hbk, hT]; rfl)
    rcases hud with ⟨e1, e2⟩ | ⟨e1, e2⟩
    · rw [← e2, ← e1]
      exact this.symm
    · rw [e1, e2] at this
      exact this
  · have h1 := (h.1 u hu).2 P (hcl P hP)
    have h2 := (h.1 v hv).2 P (hcl P hP)
    rw [e] at h1
    exact h2.mpr (h1.mp hp)
def oN (T L : Nat → Bool) (lab : Nat → Nat) (ro : Nat) : Nat := sumN (fun v => if v % 2 = 0 ∧ lab v = ro then degN L v % 2 else 0) 121
def hN (T : Nat → Bool) (lab : Nat → Nat) (ro : Nat) : Prop := ∃ v, v < 121 ∧ v % 2 = 0 ∧ lab v = ro ∧ 0 < degN T v
theorem enM_deg {S : St} {i ro v : Nat} {lab : Nat → Nat} (hi : i < S.nn) (hv : v < 121) : enM (fun k => tnM S (220 * i + k)) lab ro v = if v % 2 = 0 ∧ lab v = ro then degN (S.tn i) v else 0 := by
  unfold enM
  by_cases h1 : lab v = ro
  · rw [if_pos h1]
    by_cases h2 : v % 2 = 0
    · rw [if_pos ⟨h2, h1⟩, edF_deg hi hv h2]
    · rw [if_neg (fun h => h2 h.1), edF_odd hi (by omega)]
  · rw [if_neg h1, if_neg (fun h => h1 h.2)]
theorem odM_oN {S : St} {i ro : Nat} {lab : Nat → Nat} (hi : i < S.nn) : odM (fun k => tnM S (220 * i + k)) lab ro 121 = oN (S.tn i) (S.tn i) lab ro := by
  have h : ∀ n, n ≤ 121 → odM (fun k => tnM S (220 * i + k)) lab ro n = sumN (fun v => if v % 2 = 0 ∧ lab v = ro then degN (S.tn i) v % 2 else 0) n := by
    intro n
    induction n with
    | zero => intro _; rfl
    | succ n ih =>
      intro hn
      show odM _ lab ro n + enM _ lab ro n % 2 = sumN _ n + (if n % 2 = 0 ∧ lab n = ro then degN (S.tn i) n % 2 else 0)
      rw [ih (by omega), enM_deg hi (by omega)]
      congr 1
      by_cases hq : n % 2 = 0 ∧ lab n = ro
      · rw [if_pos hq, if_pos hq]
      · rw [if_neg hq, if_neg hq]
  exact h 121 (Nat.le_refl _)
theorem hsM_hN {S : St} {i ro : Nat} {lab : Nat → Nat} (hi : i < S.nn) : hsM (fun k => tnM S (220 * i + k)) lab ro 121 = true ↔ hN (S.tn i) lab ro := by
  have h : ∀ n, n ≤ 121 → (hsM (fun k => tnM S (220 * i + k)) lab ro n = true ↔ ∃ v, v < n ∧ v % 2 = 0 ∧ lab v = ro ∧ 0 < degN (S.tn i) v) := by
    intro n
    induction n with
    | zero => intro _; exact ⟨fun h => (by cases h), fun ⟨v, h, _⟩ => by omega⟩
    | succ n ih =>
      intro hn
      show (hsM _ lab ro n || decide (0 < enM _ lab ro n)) = true ↔ _
      rw [Bool.or_eq_true, decide_eq_true_eq, ih (by omega), enM_deg hi (by omega)]
      refine ⟨fun h => ?_, fun ⟨v, h1, h2, h3, h4⟩ => ?_⟩
      · rcases h with ⟨v, h1, h2⟩ | h
        · exact ⟨v, by omega, h2⟩
        · by_cases hc : n % 2 = 0 ∧ lab n = ro
          · rw [if_pos hc] at h
            exact ⟨n, by omega, hc.1, hc.2, h⟩
          · rw [if_neg hc] at h
            omega
      · by_cases e : v = n
        · subst e
          refine Or.inr ?_
          rw [if_pos ⟨h2, h3⟩]
          exact h4
        · exact Or.inl ⟨v, by omega, h2, h3, h4⟩
  exact h 121 (Nat.le_refl _)
/-- the part's number, if its odd knots are even in number -/
theorem ptM_eq {S : St} {i ro : Nat} {lab : Nat → Nat} (hi : i < S.nn) : (hN (S.tn i) lab ro → oN (S.tn i) (S.tn i) lab ro % 2 = 0 → ptM (fun k => tnM S (220 * i + k)) lab ro = max 1 (oN (S.tn i) (S.tn i) lab ro / 2)) ∧ (¬ hN (S.tn i) lab ro → ptM (fun k => tnM S (220 * i + k)) lab ro = 0) := by
  unfold ptM
  rw [odM_oN hi]
  refine ⟨fun h1 h2 => ?_, fun h1 => ?_⟩
  · rw [if_pos ((hsM_hN hi).mpr h1)]
    split <;> omega
  · rw [if_neg (fun h => h1 ((hsM_hN hi).mp h))]
theorem oN_hN {T : Nat → Bool} {lab : Nat → Nat} {ro : Nat} (h : 0 < oN T T lab ro) : hN T lab ro := by
  obtain ⟨v, hv, h2⟩ := sumN_pos h
  have h2 : 0 < (if v % 2 = 0 ∧ lab v = ro then degN T v % 2 else 0) := h2
  split at h2
  · next hc => exact ⟨v, hv, hc.1, hc.2, by omega⟩
  · omega
theorem fwM_sum {T : Nat → Bool} {lab : Nat → Nat} : ∀ n, fwM T lab n = sumN (fun ro => ptM T lab ro) n
  | 0 => rfl
  | n + 1 => by
    show fwM T lab n + ptM T lab n = sumN _ n + ptM T lab n
    rw [fwM_sum n]
