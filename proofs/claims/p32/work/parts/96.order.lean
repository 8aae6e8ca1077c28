-- PURE: the order of the pattern, both ways
def tau (p j : Nat) : Nat := if j = p + 1 then p else if j = p then p + 1 else j
def pm (P : Nat → Nat) : Nat → Nat → Nat
  | 0, j => j
  | n + 1, j => pm P n (tau (P n) j)
theorem swp_tau {f : Nat → Int32} {p j : Nat} : swp f p j = f (tau p j) := by
  unfold swp tau
  by_cases e : j = p + 1
  · rw [e, upd_s, if_pos rfl]
  · rw [upd_n e, if_neg e]
    by_cases e2 : j = p
    · rw [e2, upd_s, if_pos rfl]
    · rw [upd_n e2, if_neg e2]
theorem swN_tau {P : Nat → Nat} {p j : Nat} : swN P p j = P (tau p j) := by
  unfold swN tau
  by_cases e : j = p + 1
  · rw [if_pos e, if_pos e]
  · rw [if_neg e, if_neg e]
    by_cases e2 : j = p
    · rw [if_pos e2, if_pos e2]
    · rw [if_neg e2, if_neg e2]
theorem appP_pm {P : Nat → Nat} {f : Nat → Int32} : ∀ (n j : Nat), appP P n f j = f (pm P n j)
  | 0, _ => rfl
  | n + 1, j => by
    show swp (appP P n f) (P n) j = f (pm P n (tau (P n) j))
    rw [swp_tau, appP_pm n]
theorem itP_it {P : Nat → Nat} {n : Nat} {f : Nat → Int32} : ∀ (r j : Nat), itP P n r f j = f (itS (pm P n) r j)
  | 0, _ => rfl
  | r + 1, j => by
    show appP P n (itP P n r f) j = f (itS (pm P n) r (pm P n j))
    rw [appP_pm, itP_it r]
theorem tau_lt {p j c : Nat} (hp : p + 1 < c) (hj : j < c) : tau p j < c := by
  unfold tau
  split
  · omega
  · split <;> omega
theorem tau_fix {p j c : Nat} (hp : p + 1 < c) (hj : c ≤ j) : tau p j = j := by
  unfold tau
  rw [if_neg (by omega), if_neg (by omega)]
theorem tau_inv {p j : Nat} : tau p (tau p j) = j := by
  by_cases e : j = p + 1
  · have h1 : tau p j = p := by unfold tau; rw [if_pos e]
    rw [h1]
    unfold tau
    rw [if_neg (by omega), if_pos rfl, e]
  · by_cases e2 : j = p
    · have h1 : tau p j = p + 1 := by unfold tau; rw [if_neg e, if_pos e2]
      rw [h1]
      unfold tau
      rw [if_pos rfl, e2]
    · have h1 : tau p j = j := by unfold tau; rw [if_neg e, if_neg e2]
      rw [h1, h1]
theorem tau_inj {p i j : Nat} (h : tau p i = tau p j) : i = j := by
  have := congrArg (tau p) h
  rw [tau_inv, tau_inv] at this
  exact this
theorem pm_lt {P : Nat → Nat} {c : Nat} : ∀ (n j : Nat), (∀ k, k < n → P k + 1 < c) → j < c → pm P n j < c
  | 0, _, _, hj => hj
  | n + 1, j, h, hj => pm_lt n _ (fun k hk => h k (by omega)) (tau_lt (h n (by omega)) hj)
theorem pm_fix {P : Nat → Nat} {c : Nat} : ∀ (n j : Nat), (∀ k, k < n → P k + 1 < c) → c ≤ j → pm P n j = j
  | 0, _, _, _ => rfl
  | n + 1, j, h, hj => by
    show pm P n (tau (P n) j) = j
    rw [tau_fix (h n (by omega)) hj]
    exact pm_fix n j (fun k hk => h k (by omega)) hj
theorem pm_inj {P : Nat → Nat} : ∀ (n : Nat) {i j : Nat}, pm P n i = pm P n j → i = j
  | 0, _, _, h => h
  | n + 1, _, _, h => tau_inj (pm_inj n h)
theorem pig : ∀ (n : Nat) (f : Nat → Nat), (∀ i, i ≤ n → f i < n) → ∃ i j, i < j ∧ j ≤ n ∧ f i = f j
  | 0, f, h => absurd (h 0 (Nat.le_refl _)) (Nat.not_lt_zero _)
  | n + 1, f, h => by
    by_cases hx : ∃ i, i ≤ n ∧ f i = f (n + 1)
    · obtain ⟨i, hi, e⟩ := hx
      exact ⟨i, n + 1, by omega, Nat.le_refl _, e⟩
    · have hn : ∀ i, i ≤ n → f i ≠ f (n + 1) := fun i hi e => hx ⟨i, hi, e⟩
      have hl := h (n + 1) (Nat.le_refl _)
      obtain ⟨i, j, h1, h2, h3⟩ := pig n (fun i => if f i = n then f (n + 1) else f i) (fun i hi => by
        have h1 := h i (by omega)
        have h2 := hn i hi
        show (if f i = n then f (n + 1) else f i) < n
        split
        · next e => rw [e] at h2; omega
        · omega)
      refine ⟨i, j, h1, by omega, ?_⟩
      have h3 : (if f i = n then f (n + 1) else f i) = (if f j = n then f (n + 1) else f j) := h3
      have hi := hn i (by omega)
      have hj := hn j (by omega)
      by_cases a : f i = n
      · by_cases b : f j = n
        · rw [a, b]
        · rw [if_pos a, if_neg b] at h3
          exact absurd h3.symm hj
      · by_cases b : f j = n
        · rw [if_neg a, if_pos b] at h3
          exact absurd h3 hi
        · rw [if_neg a, if_neg b] at h3
          exact h3
theorem itS_add {sg : Nat → Nat} (a : Nat) : ∀ (b p : Nat), itS sg (a + b) p = itS sg a (itS sg b p)
  | 0, _ => rfl
  | b + 1, p => itS_add a b (sg p)
theorem itS_lt {sg : Nat → Nat} {c : Nat} (h : ∀ j, j < c → sg j < c) : ∀ (r j : Nat), j < c → itS sg r j < c
  | 0, _, hj => hj
  | r + 1, j, hj => itS_lt h r (sg j) (h j hj)
theorem itS_inj {sg : Nat → Nat} {c : Nat} (h : ∀ j, j < c → sg j < c) (hi : ∀ i j, i < c → j < c → sg i = sg j → i = j) : ∀ (r i j : Nat), i < c → j < c → itS sg r i = itS sg r j → i = j
  | 0, _, _, _, _, e => e
  | r + 1, i, j, hic, hjc, e => hi i j hic hjc (itS_inj h hi r (sg i) (sg j) (h i hic) (h j hjc) e)
theorem itS_congr {sg sg2 : Nat → Nat} {c : Nat} (h : ∀ j, j < c → sg j < c) (he : ∀ j, j < c → sg2 j = sg j) : ∀ (r j : Nat), j < c → itS sg2 r j = itS sg r j
  | 0, _, _ => rfl
  | r + 1, j, hj => by
    show itS sg2 r (sg2 j) = itS sg r (sg j)
    rw [he j hj]
    exact itS_congr h he r (sg j) (h j hj)
theorem per_ex {sg : Nat → Nat} (h : ∀ j, j < 8 → sg j < 8) (hi : ∀ i j, i < 8 → j < 8 → sg i = sg j → i = j) {k : Nat} (hk : k < 8) : ∃ m, m ≤ 7 ∧ itS sg m (sg k) = k := by
  obtain ⟨i, j, h1, h2, h3⟩ := pig 8 (fun r => itS sg r k) (fun r _ => itS_lt h r k hk)
  have h3 : itS sg i k = itS sg j k := h3
  rw [show j = i + (j - i) by omega, itS_add] at h3
  have := itS_inj h hi i _ _ hk (itS_lt h _ k hk) h3
  refine ⟨j - i - 1, by omega, ?_⟩
  have e : itS sg (j - i - 1) (sg k) = itS sg (j - i - 1 + 1) k := rfl
  rw [e, show j - i - 1 + 1 = j - i by omega]
  exact this.symm
theorem cyL_spec {sg : Nat → Nat} {s : Nat} : ∀ (k p n : Nat), (∃ m, m ≤ k ∧ itS sg m p = s) → n ≤ cyL sg s k p n ∧ itS sg (cyL sg s k p n - n) p = s ∧ ∀ m, m < cyL sg s k p n - n → itS sg m p ≠ s
  | 0, p, n, ⟨m, hm, e⟩ => by
    have hm : m = 0 := by omega
    subst hm
    show n ≤ n ∧ itS sg (n - n) p = s ∧ ∀ m, m < n - n → itS sg m p ≠ s
    rw [Nat.sub_self]
    exact ⟨Nat.le_refl _, e, fun m h => absurd h (Nat.not_lt_zero m)⟩
  | k + 1, p, n, ⟨m, hm, e⟩ => by
    unfold cyL
    by_cases hp : p = s
    · rw [if_pos hp, Nat.sub_self]
      exact ⟨Nat.le_refl _, hp, fun m h => absurd h (Nat.not_lt_zero m)⟩
    · rw [if_neg hp]
      have hm0 : m ≠ 0 := fun e2 => by
        rw [e2] at e
        exact hp e
      obtain ⟨h1, h2, h3⟩ := cyL_spec (sg := sg) (s := s) k (sg p) (n + 1) ⟨m - 1, by omega, by
        have : itS sg (m - 1 + 1) p = s := by rw [show m - 1 + 1 = m by omega]; exact e
        exact this⟩
      obtain ⟨c, hc⟩ : ∃ c, c = cyL sg s k (sg p) (n + 1) := ⟨_, rfl⟩
      rw [← hc] at h1 h2 h3 ⊢
      refine ⟨by omega, ?_, fun m2 hm2 => ?_⟩
      · rw [show c - n = (c - (n + 1)) + 1 by omega]
        exact h2
      · rcases Nat.eq_zero_or_pos m2 with q | q
        · rw [q]
          exact hp
        · have := h3 (m2 - 1) (by omega)
          intro q2
          apply this
          have q3 : itS sg (m2 - 1 + 1) p = s := by rw [show m2 - 1 + 1 = m2 by omega]; exact q2
          exact q3
theorem cyc_dvd {sg : Nat → Nat} {s : Nat} (h : ∃ m, m ≤ 7 ∧ itS sg m (sg s) = s) (r : Nat) : itS sg r s = s ↔ cyc sg s ∣ r := by
  obtain ⟨h1, h2, h3⟩ := cyL_spec (n := 1) 7 (sg s) h
  have e0 : cyL sg s 7 (sg s) 1 = cyc sg s := rfl
  rw [e0] at h1 h2 h3
  obtain ⟨c, hc⟩ : ∃ c, c = cyc sg s := ⟨_, rfl⟩
  rw [← hc] at h1 h2 h3 ⊢
  have hA : itS sg c s = s := by
    rw [show c = (c - 1) + 1 by omega]
    exact h2
  have hB : ∀ q, itS sg (c * q) s = s := by
    intro q
    induction q with
    | zero => rfl
    | succ q ih => rw [Nat.mul_succ, itS_add, hA, ih]
  have hC : itS sg r s = itS sg (r % c) s := by
    conv => lhs; rw [← Nat.mod_add_div r c, itS_add, hB]
  rw [hC]
  refine ⟨fun h => ?_, fun h => ?_⟩
  · rcases Nat.eq_zero_or_pos (r % c) with e | e
    · exact Nat.dvd_of_mod_eq_zero e
    · exfalso
      have hlt := Nat.mod_lt r (show c > 0 by omega)
      refine h3 (r % c - 1) (by omega) ?_
      have q3 : itS sg (r % c - 1 + 1) s = s := by rw [show r % c - 1 + 1 = r % c by omega]; exact h
      exact q3
  · rw [Nat.mod_eq_zero_of_dvd h]
    rfl
theorem ordN_dvd {sg : Nat → Nat} {r : Nat} : ∀ c, ordN sg c ∣ r ↔ ∀ k, k < c → cyc sg k ∣ r
  | 0 => ⟨fun _ k hk => absurd hk (Nat.not_lt_zero k), fun _ => Nat.one_dvd _⟩
  | c + 1 => by
    show Nat.lcm (ordN sg c) (cyc sg c) ∣ r ↔ _
    refine ⟨fun h k hk => ?_, fun h => Nat.lcm_dvd ((ordN_dvd c).mpr (fun k hk => h k (by omega))) (h c (by omega))⟩
    by_cases e : k = c
    · rw [e]
      exact Nat.dvd_trans (Nat.dvd_lcm_right _ _) h
    · exact (ordN_dvd c).mp (Nat.dvd_trans (Nat.dvd_lcm_left _ _) h) k (by omega)
/-- the braid as the calls keep it -/
def braI (S : St) : Prop := 3 ≤ S.ca ∧ S.ca ≤ 8 ∧ S.cr ≤ 60 ∧ (∀ j, j < S.cr → S.1 3 j + 1 < S.ca) ∧ ∀ j, j < 8 → S.1 4 j = pm (S.1 3) S.cr j
theorem braI.sg {S : St} (h : braI S) : (∀ j, j < 8 → S.1 4 j < 8) ∧ (∀ i j, i < 8 → j < 8 → S.1 4 i = S.1 4 j → i = j) ∧ ∀ k, k < 8 → ∃ m, m ≤ 7 ∧ itS (S.1 4) m (S.1 4 k) = k := by
  obtain ⟨h1, h2, h3, h4, h5⟩ := h
  have hlt : ∀ j, j < 8 → S.1 4 j < 8 := fun j hj => by
    rw [h5 j hj]
    exact pm_lt _ _ (fun k hk => by have := h4 k hk; omega) hj
  have hin : ∀ i j, i < 8 → j < 8 → S.1 4 i = S.1 4 j → i = j := fun i j hi hj e => by
    rw [h5 i hi, h5 j hj] at e
    exact pm_inj _ e
  exact ⟨hlt, hin, fun k hk => per_ex hlt hin hk⟩
theorem braI.ord {S : St} (h : braI S) : 1 ≤ ordN (S.1 4) S.ca ∧ ordN (S.1 4) S.ca < 1000 ∧ ∀ f2, hom8 f2 → (∀ r, 1 ≤ r → r < ordN (S.1 4) S.ca → ¬ hom8 (itP (S.1 3) S.cr r f2)) ∧ hom8 (itP (S.1 3) S.cr (ordN (S.1 4) S.ca) f2) := by
  obtain ⟨hlt, hin, hper⟩ := h.sg
  obtain ⟨h1, h2, h3, h4, h5⟩ := h
  have hbd := ordN_bd (S.1 4) S.ca
  refine ⟨hbd.1, by omega, fun f2 hf => ?_⟩
  have hpl : ∀ j, j < 8 → pm (S.1 3) S.cr j < 8 := fun j hj => by rw [← h5 j hj]; exact hlt j hj
  have key : ∀ r, hom8 (itP (S.1 3) S.cr r f2) ↔ ordN (S.1 4) S.ca ∣ r := fun r => by
    rw [ordN_dvd]
    have hj : ∀ j, j < 8 → (itP (S.1 3) S.cr r f2 j = nI j ↔ itS (S.1 4) r j = j) := fun j hj => by
      rw [itP_it, itS_congr hpl h5 r j hj]
      have hl := itS_lt hpl r j hj
      rw [hf _ hl, nI_eq (by omega) (by omega)]
    refine ⟨fun hh k hk => (cyc_dvd (hper k (by omega)) r).mp ((hj k (by omega)).mp (hh k (by omega))), fun hh j hj8 => (hj j hj8).mpr ?_⟩
    by_cases e : j < S.ca
    · exact (cyc_dvd (hper j hj8) r).mpr (hh j e)
    · have hfix : S.1 4 j = j := by
        rw [h5 j hj8]
        exact pm_fix _ _ h4 (by omega)
      have : ∀ r, itS (S.1 4) r j = j := by
        intro r
        induction r with
        | zero => rfl
        | succ r ih =>
          show itS (S.1 4) r (S.1 4 j) = j
          rw [hfix]
          exact ih
      exact this r
  refine ⟨fun r hr1 hr2 hh => ?_, (key _).mpr (Nat.dvd_refl _)⟩
  have := Nat.le_of_dvd (by omega) ((key r).mp hh)
  omega
