-- PURE: what the calls leave, as the law asks for it
theorem l_rem {a b : Nat} (ha : a < 2 ^ 31) (h0 : 0 < b) (hb : b < 2 ^ 31) : lN a - lN a / lN b * lN b = lN (a % b) := by
  have h1 : a / b * b ≤ a := Nat.div_mul_le_self a b
  rw [pk_lDiv (by omega) (by omega) (by omega), lN_mul, lN_sub h1]
  congr 1
  have := Nat.div_add_mod a b
  rw [Nat.mul_comm] at this
  omega
theorem nl_spn {S : St} {i : Nat} {a b c : Int32} : (spnS S i a b c).1 0 0 = S.1 0 0 + 1 := by simp [spnS, newL]
theorem oth_spn {S : St} {i : Nat} {a b c : Int32} : oth S (spnS S i a b c) := by
  unfold spnS
  exact oth_newL
theorem nl_lay {S : St} {i j k : Nat} {n : Int32} : (layS S i j k n).1 0 0 = S.1 0 0 + 1 := by simp [layS, newL, useS, stI]
theorem nl_pie {S : St} {i : Nat} {n : Int32} : (pieS S i n).1 0 0 = S.1 0 0 + 1 := by simp [pieS, newL, lcut, stI]
theorem nl_spl {S : St} {i j : Nat} {n : Int32} : (splS S i j n).1 0 0 = S.1 0 0 + 1 := by simp [splS, newL, useS, stI]
theorem pie_n {S : St} {i f : Nat} {n : Int32} (hf : f < 9) : (pieS S i n).2.1 f (S.1 0 0) = vec9 [S.i 0 i, S.i 1 i, n, S.i 3 i, S.i 4 i, S.i 5 i, S.i 6 i, 0, S.i 8 i] f := by
  have : (lcut S i n).1 0 0 = S.1 0 0 := rfl
  simp [pieS, newL, this, hf]
theorem pie_o {S : St} {i f j : Nat} {n : Int32} (hj : j < S.1 0 0) : (pieS S i n).2.1 f j = (lcut S i n).2.1 f j := by
  have : (lcut S i n).1 0 0 = S.1 0 0 := rfl
  have hne : j ≠ S.1 0 0 := by omega
  simp [pieS, newL, this, hne]
theorem lcut_2 {S : St} {i : Nat} {n : Int32} : (lcut S i n).2.1 2 i = S.i 2 i - n := by
  unfold lcut
  rw [stI_o (Or.inl (by decide)), stI_s]
theorem lcut_7 {S : St} {i : Nat} {n : Int32} : (lcut S i n).2.1 7 i = if 0 < S.i 2 i - n then S.i 7 i else 1 := by
  unfold lcut
  exact stI_s
theorem lcut_3 {S : St} {i : Nat} {n : Int32} : (lcut S i n).2.1 3 i = S.i 3 i := by
  unfold lcut
  rw [stI_o (Or.inl (by decide)), stI_o (Or.inl (by decide))]
theorem spl_n {S : St} {i j f : Nat} {n : Int32} (hf : f < 9) : (splS S i j n).2.1 f (S.1 0 0) = vec9 [S.i 0 i, S.i 1 i, S.i 2 i + S.i 2 j - n, imin (bearS S i) (bearS S j) * (70 + 5 * n) / 100, imax (S.i 4 i) (S.i 4 j), S.i 5 i, 0, 0, S.i 8 i] f := by
  have : (useS (useS S i) j).1 0 0 = S.1 0 0 := rfl
  simp [splS, newL, this, hf]
theorem spl_7 {S : St} {i j k : Nat} {n : Int32} (hk : k < S.1 0 0) (h : k = i ∨ k = j) : (splS S i j n).2.1 7 k = 1 := by
  have : (useS (useS S i) j).1 0 0 = S.1 0 0 := rfl
  have hne : k ≠ S.1 0 0 := by omega
  have e : (splS S i j n).2.1 7 k = (useS (useS S i) j).2.1 7 k := by simp [splS, newL, this, hne]
  rw [e]
  by_cases q : k = j
  · rw [q]
    exact use_s
  · rw [use_o (Or.inr q)]
    rcases h with h | h
    · rw [h]
      exact use_s
    · exact absurd h q
theorem stkF_kd {S : St} {kd ln : Int32} : ∀ (f i : Nat) (b : Option Nat), (∀ x, b = some x → S.i 0 x = kd) → ∀ x, stkF S kd ln f i b = some x → S.i 0 x = kd
  | 0, _, _, h => h
  | f + 1, i, b, h => stkF_kd f (i + 1) _ (fun x hx => by
    unfold stkN at hx
    split at hx
    · next hc => cases hx; exact hc.2.1
    · exact h x hx)
theorem stkS_kd {S : St} {kd ln : Int32} {i : Nat} (h : stkS S kd ln = some i) : S.i 0 i = kd := stkF_kd 60 0 none (fun x hx => by cases hx) i h
section TL
variable {S : St}
theorem nl31 (hI : Inv S) : S.nl < 2 ^ 31 := by have := hI.1.1; omega
theorem tl_spn {i : Nat} {tw hd ln : Int32} (hT : TX S) (q2 : rng tw 1 30) (q4 : rng ln 1 10000) : TX (spnS S i tw hd ln) := hT.oth (lx_spin hT.1 q2 q4) oth_spn
theorem tl_lay {x y z n : Int32} (hI : Inv S) (hT : TX S) (q1 : isX S.nl x) (q2 : isX S.nl y) (q3 : isX S.nl z) (q4 : ¬ x = y ∧ ¬ x = z ∧ ¬ y = z) (q5 : rng n 1 30) (q6 : mayL S (ixN x) (ixN y) (ixN z) n) : TX (layS S (ixN x) (ixN y) (ixN z) n) :=
  hT.oth (lx_lay hI hT.1 (isX_ix (nl31 hI) q1) (isX_ix (nl31 hI) q2) (isX_ix (nl31 hI) q3) (isX_ne (nl31 hI) q1 q2 q4.1) (isX_ne (nl31 hI) q1 q3 q4.2.1) (isX_ne (nl31 hI) q2 q3 q4.2.2) q5 q6) oth_lay
theorem tl_pie {i : Nat} {n : Int32} (hI : Inv S) (hT : TX S) (hi : i < S.1 0 0) (h1 : rng n 1 (S.i 2 i)) (hz : S.i 7 i = 0) : TX (pieS S i n) := hT.oth (lx_pie hI hT.1 hi h1 hz) oth_pie
theorem tl_spl {x y n : Int32} (hI : Inv S) (hT : TX S) (q1 : isX S.nl x) (q2 : isX S.nl y) (q3 : ¬ x = y) (q5 : mayS S (ixN x) (ixN y) n) : TX (splS S (ixN x) (ixN y) n) :=
  hT.oth (lx_spl hI hT.1 (isX_ix (nl31 hI) q1) (isX_ix (nl31 hI) q2) (isX_ne (nl31 hI) q1 q2 q3) q5) oth_spl
theorem tl_load {i : Nat} {f : Int32} (hI : Inv S) (hT : TX S) (hi : i < S.1 0 0) (hz : S.i 7 i = 0) (hf : rng f 1 1000000) : TX (loadS S i f) := hT.oth (lx_load hI hT.1 hi hz hf) oth_load
/-- what a load answers -/
theorem load_a {i : Nat} {n : Nat} (hI : Inv S) (hi : i < S.1 0 0) (hz : S.i 7 i = 0) (h1 : 1 ≤ n) (h2 : n ≤ 300) : ∃ bn, bn < 2 ^ 31 ∧ bearS S i = nI bn ∧ (bn < n → (loadS S i (nI n)).i 7 i = 2) ∧ (¬ bn < n → ¬ (loadS S i (nI n)).i 7 i = 2 ∧ ∃ m, m ≤ 1000 ∧ (loadS S i (nI n)).i 6 i = nI m) := by
  obtain ⟨k, s, bn, k1, -, -, k2, k3, k4, -⟩ := hI.2.2.1.1.bear hi
  have hp := pow3 k1
  obtain ⟨k', h', l', s', m', z', a1, a2, a3, a4, a5, a6, b0, b1, b2, b3, b6, b7⟩ := hI.2.2.1.1 i hi
  refine ⟨bn, by omega, k4, fun q => ?_, fun q => ?_⟩
  · unfold loadS
    rw [if_pos (by rw [k4]; exact nI_lt q (by omega))]
    exact stI_s
  · have hb : ¬ bearS S i < nI n := by
      rw [k4]
      exact nI_nlt (by omega) (by omega)
    unfold loadS
    rw [if_neg hb]
    obtain ⟨q1, q2, q3⟩ := load_q (F := n) (B := bn) (by omega) h1 (by omega) (by omega)
    have hq : 10 * n / bn * (10 * n / bn) ≤ 10 * 10 := Nat.mul_le_mul q1 q1
    have hm : imin 1000 (S.i 6 i + 10 * nI n / bearS S i * (10 * nI n / bearS S i)) = nI (min 1000 (m' + 10 * n / bn * (10 * n / bn))) := by
      rw [b6, k4, q2, pk_mul, nI_add, show (1000 : Int32) = nI 1000 from rfl, imin_nI (by decide) (by omega)]
    obtain ⟨e6, e7, -⟩ := harm_v (S := S) (i := i) (m := imin 1000 (S.i 6 i + 10 * nI n / bearS S i * (10 * nI n / bearS S i)))
    refine ⟨fun q => ?_, _, by omega, e6.trans hm⟩
    have q : (harmS S i (imin 1000 (S.i 6 i + 10 * nI n / bearS S i * (10 * nI n / bearS S i)))).2.1 7 i = 2 := q
    have hz : S.2.1 7 i = 0 := hz
    rw [e7, hz] at q
    unfold wz at q
    split at q
    · exact absurd q (by decide)
    · exact absurd q (by decide)
end TL
