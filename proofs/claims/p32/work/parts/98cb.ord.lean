-- PURE: the order of a pattern of eight is at most 15
theorem sumN_swap {f : Nat → Nat → Nat} (m : Nat) : ∀ n, sumN (fun i => sumN (fun j => f i j) m) n = sumN (fun j => sumN (fun i => f i j) n) m
  | 0 => (sumN_0 m).symm
  | n + 1 => by
    show sumN (fun i => sumN (fun j => f i j) m) n + sumN (fun j => f n j) m = _
    rw [sumN_swap m n, ← sumN_add]
    rfl
theorem sumN_uniq {p : Nat → Prop} {f : Nat → Nat} (hf : ∀ r, f r = 0 ∨ (f r = 1 ∧ p r)) (hu : ∀ r s, r < s → p r → p s → False) : ∀ n, sumN f n ≤ 1
  | 0 => Nat.zero_le _
  | n + 1 => by
    show sumN f n + f n ≤ 1
    rcases hf n with e | ⟨e, hp⟩
    · have := sumN_uniq hf hu n
      omega
    · rcases Nat.eq_zero_or_pos (sumN f n) with e2 | e2
      · omega
      · exfalso
        obtain ⟨k, hk, hk2⟩ := sumN_pos e2
        rcases hf k with e3 | ⟨-, hp3⟩
        · omega
        · exact hu k n hk hp3 hp
def lcmL (D : Nat → Bool) : Nat → Nat
  | 0 => 1
  | n + 1 => Nat.lcm (lcmL D n) (if D (n + 1) = true then n + 1 else 1)
theorem lcm_15d : ∀ a1 a2 a3 a4 a5 a6 a7 a8 : Bool, (if a1 = true then 1 else 0) + (if a2 = true then 2 else 0) + (if a3 = true then 3 else 0) + (if a4 = true then 4 else 0) + (if a5 = true then 5 else 0) + (if a6 = true then 6 else 0) + (if a7 = true then 7 else 0) + (if a8 = true then 8 else 0) ≤ 8 →
    Nat.lcm (Nat.lcm (Nat.lcm (Nat.lcm (Nat.lcm (Nat.lcm (Nat.lcm (Nat.lcm 1 (if a1 = true then 1 else 1)) (if a2 = true then 2 else 1)) (if a3 = true then 3 else 1)) (if a4 = true then 4 else 1)) (if a5 = true then 5 else 1)) (if a6 = true then 6 else 1)) (if a7 = true then 7 else 1)) (if a8 = true then 8 else 1) ≤ 15 := by decide +kernel
theorem lcm_15 {D : Nat → Bool} (h : sumN (fun l => if D (l + 1) = true then l + 1 else 0) 8 ≤ 8) : lcmL D 8 ≤ 15 := by
  refine lcm_15d (D 1) (D 2) (D 3) (D 4) (D 5) (D 6) (D 7) (D 8) ?_
  have e : sumN (fun l => if D (l + 1) = true then l + 1 else 0) 8 = 0 + (if D 1 = true then 1 else 0) + (if D 2 = true then 2 else 0) + (if D 3 = true then 3 else 0) + (if D 4 = true then 4 else 0) + (if D 5 = true then 5 else 0) + (if D 6 = true then 6 else 0) + (if D 7 = true then 7 else 0) + (if D 8 = true then 8 else 0) := rfl
  rw [e] at h
  omega
theorem lcmL_dvd {D : Nat → Bool} {l : Nat} : ∀ n, 1 ≤ l → l ≤ n → D l = true → l ∣ lcmL D n
  | 0, h1, h2, _ => absurd h2 (by omega)
  | n + 1, h1, h2, h3 => by
    show l ∣ Nat.lcm (lcmL D n) (if D (n + 1) = true then n + 1 else 1)
    by_cases e : l = n + 1
    · subst e
      rw [if_pos h3]
      exact Nat.dvd_lcm_right _ _
    · exact Nat.dvd_trans (lcmL_dvd n h1 (by omega) h3) (Nat.dvd_lcm_left _ _)
theorem lcmL_pos {D : Nat → Bool} : ∀ n, 0 < lcmL D n
  | 0 => Nat.one_pos
  | n + 1 => Nat.lcm_pos (lcmL_pos n) (by split <;> omega)
section ORD
variable {sg : Nat → Nat}
theorem cyc_it (h : ∀ j, j < 8 → sg j < 8) (hi : ∀ i j, i < 8 → j < 8 → sg i = sg j → i = j) {k : Nat} (hk : k < 8) (m : Nat) : cyc sg (itS sg m k) = cyc sg k := by
  have hl := itS_lt h m k hk
  have key : ∀ r, cyc sg (itS sg m k) ∣ r ↔ cyc sg k ∣ r := fun r => by
    rw [← cyc_dvd (per_ex h hi hl) r, ← cyc_dvd (per_ex h hi hk) r, ← itS_add, Nat.add_comm, itS_add]
    refine ⟨fun e => itS_inj h hi m _ _ (itS_lt h r k hk) hk e, fun e => by rw [e]⟩
  exact Nat.dvd_antisymm ((key _).mpr (Nat.dvd_refl _)) ((key _).mp (Nat.dvd_refl _))
theorem cyc_cnt (h : ∀ j, j < 8 → sg j < 8) (hi : ∀ i j, i < 8 → j < 8 → sg i = sg j → i = j) {k : Nat} (hk : k < 8) : cyc sg k ≤ sumN (fun q => if cyc sg q = cyc sg k then 1 else 0) 8 := by
  have e1 : sumN (fun r => sumN (fun q => if q = itS sg r k then 1 else 0) 8) (cyc sg k) = cyc sg k := by
    have : sumN (fun r => sumN (fun q => if q = itS sg r k then 1 else 0) 8) (cyc sg k) = sumN (fun _ => 1) (cyc sg k) := sumN_congr (fun r _ => by
      show sumN (fun q => if q = itS sg r k then 1 else 0) 8 = 1
      rw [sumN_1, if_pos (itS_lt h r k hk)])
    rw [this, sumN_c, Nat.mul_one]
  rw [sumN_swap 8] at e1
  have e2 : sumN (fun q => sumN (fun r => if q = itS sg r k then 1 else 0) (cyc sg k)) 8 ≤ sumN (fun q => if cyc sg q = cyc sg k then 1 else 0) 8 := sumN_le (fun q hq => by
    show sumN (fun r => if q = itS sg r k then 1 else 0) (cyc sg k) ≤ (if cyc sg q = cyc sg k then 1 else 0)
    by_cases e : cyc sg q = cyc sg k
    · rw [if_pos e]
      have hle : sumN (fun r => if q = itS sg r k then 1 else 0) (cyc sg k) = sumN (fun r => if r < cyc sg k ∧ q = itS sg r k then 1 else 0) (cyc sg k) := sumN_congr (fun r hr => by
        by_cases z : q = itS sg r k
        · rw [if_pos z, if_pos ⟨hr, z⟩]
        · rw [if_neg z, if_neg (fun y => z y.2)])
      rw [hle]
      refine sumN_uniq (p := fun r => r < cyc sg k ∧ q = itS sg r k) (fun r => ?_) (fun r s hrs hr hs => ?_) _
      · by_cases z : r < cyc sg k ∧ q = itS sg r k
        · exact Or.inr ⟨if_pos z, z⟩
        · exact Or.inl (if_neg z)
      · have e3 : itS sg r k = itS sg s k := hr.2.symm.trans hs.2
        rw [show s = r + (s - r) by omega, itS_add] at e3
        have e4 := itS_inj h hi r _ _ hk (itS_lt h _ k hk) e3
        have e5 := (cyc_dvd (per_ex h hi hk) (s - r)).mp e4.symm
        have := Nat.le_of_dvd (by omega) e5
        omega
    · rw [if_neg e]
      have : sumN (fun r => if q = itS sg r k then 1 else 0) (cyc sg k) = sumN (fun _ => 0) (cyc sg k) := sumN_congr (fun r _ => by
        show (if q = itS sg r k then 1 else 0) = 0
        rw [if_neg (fun z => e (by rw [z]; exact cyc_it h hi hk r))])
      rw [this, sumN_0]
      exact Nat.le_refl _)
  omega
noncomputable def cycD (sg : Nat → Nat) (l : Nat) : Bool := ck (∃ k, k < 8 ∧ cyc sg k = l) true false
theorem cycD_iff {l : Nat} : cycD sg l = true ↔ ∃ k, k < 8 ∧ cyc sg k = l := by
  unfold cycD
  by_cases h : ∃ k, k < 8 ∧ cyc sg k = l
  · rw [ck_p h]
    exact ⟨fun _ => h, fun _ => rfl⟩
  · rw [ck_n h]
    exact ⟨fun q => (by cases q), fun q => absurd q h⟩
theorem ord_15 (h : ∀ j, j < 8 → sg j < 8) (hi : ∀ i j, i < 8 → j < 8 → sg i = sg j → i = j) {c : Nat} (hc : c ≤ 8) : ordN sg c ≤ 15 := by
  have h1 : sumN (fun l => if cycD sg (l + 1) = true then l + 1 else 0) 8 ≤ sumN (fun l => sumN (fun q => if cyc sg q = l + 1 then 1 else 0) 8) 8 := sumN_le (fun l _ => by
    show (if cycD sg (l + 1) = true then l + 1 else 0) ≤ sumN (fun q => if cyc sg q = l + 1 then 1 else 0) 8
    by_cases e : cycD sg (l + 1) = true
    · rw [if_pos e]
      obtain ⟨k, hk, ek⟩ := cycD_iff.mp e
      have := cyc_cnt h hi hk
      rw [ek] at this
      exact this
    · rw [if_neg e]
      exact Nat.zero_le _)
  rw [sumN_swap 8] at h1
  have h2 : sumN (fun q => sumN (fun l => if cyc sg q = l + 1 then 1 else 0) 8) 8 ≤ sumN (fun _ => 1) 8 := sumN_le (fun q _ => by
    show sumN (fun l => if cyc sg q = l + 1 then 1 else 0) 8 ≤ 1
    refine sumN_uniq (p := fun l => cyc sg q = l + 1) (fun l => ?_) (fun r s hrs hr hs => ?_) _
    · by_cases z : cyc sg q = l + 1
      · exact Or.inr ⟨if_pos z, z⟩
      · exact Or.inl (if_neg z)
    · have hr : cyc sg q = r + 1 := hr
      have hs : cyc sg q = s + 1 := hs
      omega)
  rw [sumN_c] at h2
  have h3 := lcm_15 (D := cycD sg) (by omega)
  refine Nat.le_trans (Nat.le_of_dvd (lcmL_pos 8) ((ordN_dvd c).mpr (fun k hk => ?_))) h3
  have hb := cyc_bd sg k
  exact lcmL_dvd 8 hb.1 hb.2 (cycD_iff.mpr ⟨k, by omega, rfl⟩)
end ORD
theorem braI.o15 {S : St} (h : braI S) : ordN (S.1 4) S.ca ≤ 15 := by
  obtain ⟨hlt, hin, -⟩ := h.sg
  exact ord_15 hlt hin h.2.1
