-- PURE: what every run keeps
def fibI (S : St) : Prop := ∀ i, i < 4 → ∃ a b, 1 ≤ a ∧ a ≤ 1000 ∧ 1 ≤ b ∧ b ≤ 100 ∧ S.i 9 i = nI a ∧ S.i 10 i = nI b
def lin1 (k h l s m z : Int32) : Prop := ∃ k' h' l' s' m' z' : Nat, k' ≤ 3 ∧ h' ≤ 1 ∧ l' ≤ 600000 ∧ s' ≤ 1000 * 3 ^ k' ∧ m' ≤ 1000 ∧ z' ≤ 3 ∧ k = nI k' ∧ h = nI h' ∧ l = nI l' ∧ s = nI s' ∧ m = nI m' ∧ z = nI z'
def linI (S : St) : Prop := ∀ i, i < S.nl → lin1 (S.i 0 i) (S.i 1 i) (S.i 2 i) (S.i 3 i) (S.i 6 i) (S.i 7 i)
def whL (S : St) (i : Nat) : Nat := if S.i 7 i = 0 then ixN (S.i 2 i) else 0
def sumI (S : St) : Prop := sumN (whL S) S.nl ≤ 10000 * S.nl
def knd (S : St) (i : Nat) : Nat := ixN (S.i 0 i)
def netI (S : St) : Prop := ∀ i, i < S.nn → 1 ≤ S.1 5 i ∧ S.1 5 i ≤ 10 ∧ 1 ≤ S.1 6 i ∧ S.1 6 i ≤ 10
def Inv (S : St) : Prop := (S.nl ≤ 60 ∧ S.nr ≤ 12 ∧ S.nn ≤ 5) ∧ fibI S ∧ (linI S ∧ sumI S ∧ yarnI S (knd S)) ∧ rigI S ∧ braI S ∧ netI S
theorem ixN_nI {n : Nat} (h : n < 2 ^ 31) : ixN (nI n) = n := nI_clamp h
theorem imin_nI {x y : Nat} (hx : x < 2 ^ 31) (hy : y < 2 ^ 31) : imin (nI x) (nI y) = nI (min x y) := by
  unfold imin
  by_cases h : nI y < nI x
  · rw [if_pos h]
    rw [nI_ltI hy hx] at h
    rw [Nat.min_eq_right (by omega)]
  · rw [if_neg h]
    rw [nI_ltI hy hx] at h
    rw [Nat.min_eq_left (by omega)]
theorem pow3 {k : Nat} (h : k ≤ 3) : 1000 * 3 ^ k ≤ 27000 := by
  have : k = 0 ∨ k = 1 ∨ k = 2 ∨ k = 3 := by omega
  rcases this with rfl | rfl | rfl | rfl <;> decide
theorem lin1.bnd {k h l s m z : Int32} (H : lin1 k h l s m z) : rng k 0 3 ∧ rng h 0 1 ∧ rng z 0 3 := by
  obtain ⟨k', h', l', s', m', z', h1, h2, h3, h4, h5, h6, rfl, rfl, rfl, rfl, rfl, rfl⟩ := H
  exact ⟨(rng_nn (by omega) (by decide)).mpr h1, (rng_nn (by omega) (by decide)).mpr h2, (rng_nn (by omega) (by decide)).mpr h6⟩
theorem bear_nat {s m : Nat} (hs : s ≤ 27000) (hm : m ≤ 1000) : nI s * (1000 - nI m) / 1000 = nI (s * (1000 - m) / 1000) := by
  have hb : s * (1000 - m) ≤ 27000 * 1000 := Nat.mul_le_mul hs (by omega)
  rw [show (1000 : Int32) = nI 1000 from rfl, pk_sub hm, pk_mul, pk_div (by omega) (by decide) (by decide)]
theorem bear_le {s m : Nat} : s * (1000 - m) / 1000 ≤ s := by
  have : s * (1000 - m) ≤ s * 1000 := Nat.mul_le_mul_left s (by omega)
  omega
theorem linI.bear {S : St} (h : linI S) {i : Nat} (hi : i < S.nl) : ∃ k s B, k ≤ 3 ∧ S.i 0 i = nI k ∧ S.i 3 i = nI s ∧ B ≤ s ∧ s ≤ 1000 * 3 ^ k ∧ bearS S i = nI B ∧ bearA S i = nI B := by
  obtain ⟨k', h', l', s', m', z', h1, h2, h3, h4, h5, h6, e0, e1, e2, e3, e6, e7⟩ := h i hi
  have hp := pow3 h1
  refine ⟨k', s', s' * (1000 - m') / 1000, h1, e0, e3, bear_le, h4, ?_, ?_⟩
  · unfold bearS
    rw [e3, e6]
    exact bear_nat (by omega) h5
  · unfold bearA
    have hb : s' * (1000 - m') ≤ 27000 * 1000 := Nat.mul_le_mul (by omega) (by omega)
    rw [e3, e6, show (1000 : Int32) = nI 1000 from rfl, pk_sub h5, nI_l (by omega), nI_l (by omega), lN_mul, show (1000 : Int64) = lN 1000 from rfl, pk_lDiv (by omega) (by decide) (by decide), lN_i]
theorem linI.bearE {S : St} (h : linI S) : ∀ i, i < S.nl → bearA S i = bearS S i := fun i hi => by
  obtain ⟨k, s, B, -, -, -, -, -, e1, e2⟩ := h.bear hi
  rw [e1, e2]
-- loads
theorem load_q {F B : Nat} (hF : F ≤ 1000000) (hF1 : 1 ≤ F) (hFB : F ≤ B) (hB : B ≤ 27000) : 10 * F / B ≤ 10 ∧ 10 * nI F / nI B = nI (10 * F / B) ∧ (10 * (nI F).toInt64 / (nI B).toInt64).toInt32 = nI (10 * F / B) := by
  refine ⟨?_, ?_, ?_⟩
  · have h1 : 10 * F / B * B ≤ 10 * F := Nat.div_mul_le_self _ _
    rcases Nat.lt_or_ge 10 (10 * F / B) with e | e
    · have : 11 * B ≤ 10 * F / B * B := Nat.mul_le_mul_right B e
      omega
    · exact e
  · rw [show (10 : Int32) = nI 10 from rfl, pk_mul, pk_div (by omega) (by omega) (by omega)]
  · rw [nI_l (by omega), nI_l (by omega), show (10 : Int64) = lN 10 from rfl, lN_mul, pk_lDiv (by omega) (by omega) (by omega), lN_i]
theorem rng1_nat {x : Int32} {b : Nat} (hb : b + 1 < 2 ^ 31) (h : rng x 1 (nI b)) : ∃ n, 1 ≤ n ∧ n ≤ b ∧ x = nI n := by
  obtain ⟨n, h1, h2, h3, -⟩ := rng_pos hb h
  exact ⟨n, h1, h2, h3⟩
theorem ld_f {f : Int32} (h : rng f 1 1000000) : ¬ 10 * f < 0 := by
  obtain ⟨n, h1, h2, rfl⟩ := rng1_nat (b := 1000000) (by decide) h
  rw [show (10 : Int32) = nI 10 from rfl, pk_mul]
  exact nI_pos (by omega)
theorem ld_m {f b : Int32} (h : rng f 1 1000000) (hb : ¬ b < f) : 0 < b := by
  obtain ⟨h1, -⟩ := h
  rw [Int32.lt_iff_toInt_lt] at h1 hb ⊢
  have e1 : (1 : Int32).toInt = 1 := rfl
  have e0 : (0 : Int32).toInt = 0 := rfl
  omega
theorem linI.ld {S : St} (h : linI S) {i : Nat} {f : Int32} (hi : i < S.nl) (hf : rng f 1 1000000) (hb : ¬ bearS S i < f) : ¬ (bearS S i).toInt64 = 0 ∧ (10 * f.toInt64 / (bearS S i).toInt64).toInt32 = 10 * f / bearS S i := by
  obtain ⟨k, s, B, h1, -, -, h2, h3, e1, -⟩ := h.bear hi
  obtain ⟨n, h5, h6, rfl⟩ := rng1_nat (b := 1000000) (by decide) hf
  have hp := pow3 h1
  rw [e1, nI_ltI (by omega) (by omega)] at hb
  obtain ⟨q1, q2, q3⟩ := load_q h6 h5 (show n ≤ B by omega) (by omega)
  rw [e1]
  refine ⟨fun e => ?_, by rw [q2, q3]⟩
  rw [nI_l (by omega), show (0 : Int64) = lN 0 from rfl, pk_lEQ (by omega) (by decide)] at e
  omega
-- rigs
theorem rigI.hp {S : St} (h : rigI S) : ∀ q, q < S.nr → S.1 2 q < 2 ^ 31 := fun q hq => by
  obtain ⟨-, -, h3, -⟩ := h q hq
  omega
theorem rigI.hpl {S : St} (h : rigI S) : ∀ q L, q < S.nr → L ≤ 1000000 → nI (bsS S q L) = plS S q (nI L) := fun q L hq hL => by
  obtain ⟨p0, -, e1, e2, -⟩ := pl_both h hq hL
  rw [e1, e2]
theorem rng0_nat {x : Int32} {b : Nat} (hb : b + 1 < 2 ^ 31) (h : rng x 0 (nI b)) : ∃ n, n ≤ b ∧ x = nI n := by
  obtain ⟨n, h1, h2, -⟩ := rng_nat hb h.1 h.2
  exact ⟨n, h1, h2⟩
theorem rigI.hpr {S : St} (h : rigI S) : ∀ q l, q < S.nr → rng l 0 1000000 → rng (plS S q l) 0 1000000 := fun q l hq hl => by
  obtain ⟨n, h1, rfl⟩ := rng0_nat (b := 1000000) (by decide) hl
  obtain ⟨p0, h2, -, e2, -⟩ := pl_both h hq h1
  rw [e2]
  show rng (nI p0) 0 (nI 1000000)
  exact (rng_nn (by omega) (by decide)).mpr (by omega)
theorem lift_m {S : St} (hr : rigI S) (hl : linI S) {q : Nat} {ld : Int32} (hq : q < S.nr) (h : rng ld 1 1000000) (hb : beaR S q ld) : rng (plS S q ld) 1 1000000 ∧ ¬ bearS S (S.1 1 q) < plS S q ld := by
  obtain ⟨n, h1, h2, rfl⟩ := rng1_nat (b := 1000000) (by decide) h
  obtain ⟨p0, h3, -, e2, h4⟩ := pl_both hr hq h2
  obtain ⟨k, s, B, k1, -, -, k2, k3, e1, -⟩ := hl.bear (hr q hq).1
  have hp := pow3 k1
  have hb2 := hb.2
  rw [e1, e2, show (5 : Int32) = nI 5 from rfl, pk_div (by omega) (by decide) (by decide), nI_ltI (by omega) (by omega)] at hb2
  rw [e1, e2]
  refine ⟨⟨?_, ?_⟩, ?_⟩
  · rw [show (1 : Int32) = nI 1 from rfl, nI_ltI (by omega) (by decide)]
    omega
  · rw [show (1000000 : Int32) = nI 1000000 from rfl, nI_ltI (by decide) (by omega)]
    omega
  · rw [nI_ltI (by omega) (by omega)]
    omega
-- spin
def shN (t : Nat) : Nat := max 10 (100 - 3 * (if t < 12 then 12 - t else t - 12))
theorem sh_ok : ∀ t, t < 31 → 1 ≤ t → imax 10 (100 - 3 * iabs (nI t - 12)) = nI (shN t) ∧ shN t ≤ 100 := by decide +kernel
theorem spin_m {S : St} (h : fibI S) {tw : Int32} {i : Nat} (hi : i < 4) (ht : rng tw 1 30) : (¬ S.i 9 i * imax 10 (100 - 3 * iabs (tw - 12)) / 100 * S.i 10 i < 0 ∧ 0 < S.i 10 i + 5) ∧ ∃ y, 1 ≤ y ∧ y ≤ 1000 ∧ ysS (S.i 9 i) (S.i 10 i) tw = nI y := by
  obtain ⟨a, b, a1, a2, b1, b2, ea, eb⟩ := h i hi
  obtain ⟨t, t1, t2, rfl⟩ := rng1_nat (b := 30) (by decide) ht
  obtain ⟨s1, s2⟩ := sh_ok t (by omega) t1
  have hm : a * shN t ≤ 1000 * 100 := Nat.mul_le_mul a2 s2
  have hm2 : a * shN t / 100 * b ≤ 1000 * 100 := Nat.mul_le_mul (by omega) b2
  have e1 : S.i 9 i * imax 10 (100 - 3 * iabs (nI t - 12)) / 100 * S.i 10 i = nI (a * shN t / 100 * b) := by
    rw [ea, eb, s1, pk_mul, show (100 : Int32) = nI 100 from rfl, pk_div (by omega) (by decide) (by decide), pk_mul]
  refine ⟨⟨?_, ?_⟩, max 1 (a * shN t / 100 * b / (b + 5)), by omega, ?_, ?_⟩
  · rw [e1]
    exact nI_pos (by omega)
  · rw [eb, show (5 : Int32) = nI 5 from rfl, nI_add, show (0 : Int32) = nI 0 from rfl, nI_ltI (by decide) (by omega)]
    omega
  · have h1 : a * shN t / 100 ≤ 1000 := by omega
    have h2 : a * shN t / 100 * b / (b + 5) ≤ a * shN t / 100 := by
      refine Nat.div_le_of_le_mul ?_
      rw [Nat.mul_comm (b + 5)]
      exact Nat.mul_le_mul_left _ (by omega)
    omega
  · unfold ysS
    rw [e1, eb, show (5 : Int32) = nI 5 from rfl, nI_add, pk_div (by omega) (by omega) (by omega), show (1 : Int32) = nI 1 from rfl, imax_nI (by decide) (by
      have : a * shN t / 100 * b / (b + 5) ≤ a * shN t / 100 * b := Nat.div_le_self _ _
      omega)]
-- lay
theorem lay_len {S : St} (h : linI S) {i j k : Nat} {n : Int32} (hi : i < S.nl) (hj : j < S.nl) (hk : k < S.nl) (hn : rng n 1 30) : ∃ L li, S.i 2 i = nI li ∧ L ≤ li ∧ li ≤ 600000 ∧ layL S i j k n = nI L := by
  obtain ⟨ki, hhi, li, si, mi, zi, -, -, a3, -, -, -, -, -, e2, -⟩ := h i hi
  obtain ⟨kj, hhj, lj, sj, mj, zj, -, -, b3, -, -, -, -, -, f2, -⟩ := h j hj
  obtain ⟨kk, hhk, lk, sk, mk, zk, -, -, c3, -, -, -, -, -, g2, -⟩ := h k hk
  obtain ⟨t, t1, t2, rfl⟩ := rng1_nat (b := 30) (by decide) hn
  have hm : min li (min lj lk) * (100 - t) ≤ 600000 * 100 := Nat.mul_le_mul (by omega) (by omega)
  have hm2 : min li (min lj lk) * (100 - t) ≤ min li (min lj lk) * 100 := Nat.mul_le_mul_left _ (by omega)
  refine ⟨min li (min lj lk) * (100 - t) / 100, li, e2, by omega, a3, ?_⟩
  unfold layL
  rw [e2, f2, g2, imin_nI (by omega) (by omega), imin_nI (by omega) (by omega), show (100 : Int32) = nI 100 from rfl, pk_sub (by omega), pk_mul, pk_div (by omega) (by decide) (by decide)]
theorem lay_m {S : St} (h : linI S) {n : Int32} : ∀ i j k, i < S.nl → j < S.nl → k < S.nl → rng n 1 30 → ¬ layL S i j k n < 0 := fun i j k hi hj hk hn => by
  obtain ⟨L, li, -, h1, h2, e⟩ := lay_len h hi hj hk hn
  rw [e]
  exact nI_pos (by omega)
