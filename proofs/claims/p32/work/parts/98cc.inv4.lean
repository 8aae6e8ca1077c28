-- PURE: what the law's runs keep besides
theorem i32_add {a b : Int32} (h1 : -1000000 ≤ a.toInt) (h2 : a.toInt ≤ 1000000) (h3 : -1000000 ≤ b.toInt) (h4 : b.toInt ≤ 1000000) : (a + b).toInt = a.toInt + b.toInt := by
  rw [Int32.toInt_add]
  exact Int.bmod_eq_of_le (by omega) (by omega)
theorem i32_neg {a : Int32} (h1 : -1000000 ≤ a.toInt) (h2 : a.toInt ≤ 1000000) : (-a).toInt = -a.toInt := by
  rw [Int32.toInt_neg]
  exact Int.bmod_eq_of_le (by omega) (by omega)
def tqM (k : Nat) : Nat := 30 * (k + 1) * 3 ^ k
def tqB (t : Int32) (k : Nat) : Prop := -(tqM k : Int) ≤ t.toInt ∧ t.toInt ≤ (tqM k : Int)
def li1 (k w t m z l y : Int32) : Prop := w = nI (3 ^ ixN k) ∧ y = nI (3 ^ ixN k) ∧ tqB t (ixN k) ∧ (z = 3 ↔ 300 ≤ ixN m) ∧ (z = 0 → 1 ≤ ixN l)
def li2 (S : St) (i : Nat) : Prop := li1 (S.i 0 i) (S.i 4 i) (S.i 5 i) (S.i 6 i) (S.i 7 i) (S.i 2 i) (S.i 8 i)
def linX (S : St) : Prop := ∀ i, i < S.1 0 0 → li2 S i
def ovI (S : St) : Prop := ∀ a b, a < 8 → b < 8 → -(S.1 0 4 : Int) ≤ (S.2.1 12 (8 * a + b)).toInt ∧ (S.2.1 12 (8 * a + b)).toInt ≤ (S.1 0 4 : Int) ∧ (S.2.1 12 (8 * a + b)).toInt = -(S.2.1 12 (8 * b + a)).toInt
def ne7 (S : St) : Prop := S.1 0 2 = 1 ∧ S.1 5 0 = 6 ∧ S.1 6 0 = 7
def oth (S S2 : St) : Prop := (S2.1 0 1 = S.1 0 1 ∧ S2.1 0 2 = S.1 0 2 ∧ S2.1 0 3 = S.1 0 3 ∧ S2.1 0 4 = S.1 0 4) ∧ (S2.1 1 = S.1 1 ∧ S2.1 2 = S.1 2 ∧ S2.1 5 = S.1 5 ∧ S2.1 6 = S.1 6) ∧ S2.2.1 11 = S.2.1 11 ∧ S2.2.1 12 = S.2.1 12
theorem oth.rf {S : St} : oth S S := ⟨⟨rfl, rfl, rfl, rfl⟩, ⟨rfl, rfl, rfl, rfl⟩, rfl, rfl⟩
theorem oth.tr {S S2 S3 : St} (h : oth S S2) (h2 : oth S2 S3) : oth S S3 := by
  obtain ⟨⟨a1, a2, a3, a4⟩, ⟨b1, b2, b3, b4⟩, c1, c2⟩ := h
  obtain ⟨⟨d1, d2, d3, d4⟩, ⟨e1, e2, e3, e4⟩, f1, f2⟩ := h2
  exact ⟨⟨d1.trans a1, d2.trans a2, d3.trans a3, d4.trans a4⟩, ⟨e1.trans b1, e2.trans b2, e3.trans b3, e4.trans b4⟩, f1.trans c1, f2.trans c2⟩
theorem oth_stI {S : St} {f i : Nat} {v : Int32} (h : f < 9) : oth S (stI S f i v) := by
  refine ⟨⟨rfl, rfl, rfl, rfl⟩, ⟨rfl, rfl, rfl, rfl⟩, funext fun j => ?_, funext fun j => ?_⟩
  · simp only [stI]
    rw [if_neg (by omega)]
  · simp only [stI]
    rw [if_neg (by omega)]
theorem oth_newL {S : St} {v : Nat → Int32} {r : Nat → Option Nat} : oth S (newL S v r) := by
  refine ⟨⟨?_, ?_, ?_, ?_⟩, ⟨funext fun i => ?_, funext fun i => ?_, funext fun i => ?_, funext fun i => ?_⟩, funext fun j => ?_, funext fun j => ?_⟩ <;> simp [newL]
theorem oth.ov {S S2 : St} (h : oth S S2) (hO : ovI S) : ovI S2 := by
  obtain ⟨⟨a1, a2, a3, a4⟩, ⟨b1, b2, b3, b4⟩, c1, c2⟩ := h
  unfold ovI at hO ⊢
  rw [a4, c2]
  exact hO
theorem oth.ne {S S2 : St} (h : oth S S2) (hO : ne7 S) : ne7 S2 := by
  obtain ⟨⟨a1, a2, a3, a4⟩, ⟨b1, b2, b3, b4⟩, c1, c2⟩ := h
  unfold ne7 at hO ⊢
  rw [a2, b3, b4]
  exact hO
def TX (S : St) : Prop := linX S ∧ ovI S ∧ ne7 S
theorem li2_eq {S S2 : St} {i : Nat} (h : ∀ f, f < 9 → S2.2.1 f i = S.2.1 f i) (hl : li2 S i) : li2 S2 i := by
  unfold li2 St.i at hl ⊢
  rw [h 0 (by decide), h 2 (by decide), h 4 (by decide), h 5 (by decide), h 6 (by decide), h 7 (by decide), h 8 (by decide)]
  exact hl
theorem li2_newL {S : St} {v : Nat → Int32} {r : Nat → Option Nat} (h : linX S) (hv : li1 (v 0) (v 4) (v 5) (v 6) (v 7) (v 2) (v 8)) : linX (newL S v r) := fun i hi => by
  have e0 : (newL S v r).1 0 0 = S.1 0 0 + 1 := by simp [newL]
  rw [e0] at hi
  by_cases e : i = S.1 0 0
  · subst e
    have ev : ∀ f, f < 9 → (newL S v r).2.1 f (S.1 0 0) = v f := fun f hf => by simp [newL, hf]
    unfold li2 St.i
    rw [ev 0 (by decide), ev 2 (by decide), ev 4 (by decide), ev 5 (by decide), ev 6 (by decide), ev 7 (by decide), ev 8 (by decide)]
    exact hv
  · exact li2_eq (fun f hf => by simp [newL, e]) (h i (by omega))
theorem li1.n3 {k w t m l y : Int32} (h : li1 k w t m 0 l y) : ¬ 300 ≤ ixN m := fun q => by
  have := h.2.2.2.1.mpr q
  exact absurd this (by decide)
theorem li1.st {k w t m l y z : Int32} (h : li1 k w t m 0 l y) (hz : z = 1 ∨ z = 2) : li1 k w t m z l y := by
  have h3 := h.n3
  obtain ⟨h1, h2, h4, -, -⟩ := h
  refine ⟨h1, h2, h4, ⟨fun q => ?_, fun q => absurd q h3⟩, fun q => ?_⟩
  · rcases hz with rfl | rfl
    · exact absurd q (by decide)
    · exact absurd q (by decide)
  · rcases hz with rfl | rfl
    · exact absurd q (by decide)
    · exact absurd q (by decide)
theorem stI_o {S : St} {f i f2 j : Nat} {v : Int32} (h : f2 ≠ f ∨ j ≠ i) : (stI S f i v).2.1 f2 j = S.2.1 f2 j := by
  simp only [stI]
  rw [if_neg (by omega)]
theorem stI_s {S : St} {f i : Nat} {v : Int32} : (stI S f i v).2.1 f i = v := by
  simp only [stI]
  rw [if_pos ⟨trivial, trivial⟩]
theorem linX_st {S : St} {i : Nat} {z : Int32} (h : linX S) (h0 : S.2.1 7 i = 0) (hz : z = 1 ∨ z = 2) : linX (stI S 7 i z) := fun j hj => by
  by_cases e : j = i
  · subst e
    have hl := h j hj
    unfold li2 St.i at hl ⊢
    rw [stI_o (f2 := 0) (Or.inl (by decide)), stI_o (f2 := 2) (Or.inl (by decide)), stI_o (f2 := 4) (Or.inl (by decide)), stI_o (f2 := 5) (Or.inl (by decide)), stI_o (f2 := 6) (Or.inl (by decide)), stI_o (f2 := 8) (Or.inl (by decide)), stI_s]
    rw [h0] at hl
    exact hl.st hz
  · exact li2_eq (fun f _ => stI_o (Or.inr e)) (h j hj)
theorem linX_use {S : St} {i : Nat} (h : linX S) (h0 : S.2.1 7 i = 0) : linX (useS S i) := linX_st h h0 (Or.inl rfl)
-- spin
theorem pos_ix {n : Int32} {b : Nat} (hb : b + 1 < 2 ^ 31) (h : rng n 1 (nI b)) : 1 ≤ ixN n := by
  obtain ⟨l, l1, l2, rfl⟩ := rng1_nat hb h
  rw [ixN_nI (by omega)]
  exact l1
theorem lx_spin {S : St} {i : Nat} {tw hd ln : Int32} (h : linX S) (h1 : rng tw 1 30) (h3 : rng ln 1 10000) : linX (spnS S i tw hd ln) := by
  unfold spnS
  refine li2_newL h ?_
  show li1 0 1 (tqS hd tw) 0 0 ln 1
  obtain ⟨t, t1, t2, rfl⟩ := rng1_nat (b := 30) (by decide) h1
  have ht : (nI t).toInt = (t : Int) := nI_toInt (by omega)
  have e0 : ixN (0 : Int32) = 0 := by decide
  refine ⟨by rw [e0]; rfl, by rw [e0]; rfl, ?_, ⟨fun q => absurd q (by decide), fun q => by rw [e0] at q; omega⟩, fun _ => pos_ix (b := 10000) (by decide) h3⟩
  rw [e0]
  show -((30 : Nat) : Int) ≤ (tqS hd (nI t)).toInt ∧ (tqS hd (nI t)).toInt ≤ ((30 : Nat) : Int)
  unfold tqS
  split
  · rw [i32_neg (by omega) (by omega)]
    omega
  · omega
-- cut
theorem lx_lcut {S : St} {i : Nat} {n : Int32} (hI : Inv S) (h : linX S) (hi : i < S.1 0 0) (h1 : rng n 1 (S.i 2 i)) (hz : S.i 7 i = 0) : linX (lcut S i n) := fun j hj => by
  have hj : j < S.1 0 0 := hj
  by_cases e : j = i
  · subst e
    obtain ⟨k', h', l', s', m', z', a1, a2, a3, a4, a5, a6, b0, b1, b2, b3, b6, b7⟩ := hI.2.2.1.1 j hi
    rw [b2] at h1
    obtain ⟨nn, n1, n2, rfl⟩ := rng1_nat (by omega) h1
    have hsub : S.i 2 j - nI nn = nI (l' - nn) := by rw [b2, pk_sub n2]
    have hl := h j hj
    have hz : S.2.1 7 j = 0 := hz
    unfold li2 St.i at hl
    rw [hz] at hl
    unfold lcut
    rw [hsub]
    unfold li2 St.i
    rw [stI_o (f2 := 0) (Or.inl (by decide)), stI_o (f2 := 2) (Or.inl (by decide)), stI_o (f2 := 4) (Or.inl (by decide)), stI_o (f2 := 5) (Or.inl (by decide)), stI_o (f2 := 6) (Or.inl (by decide)), stI_o (f2 := 8) (Or.inl (by decide)), stI_s]
    rw [stI_o (f2 := 0) (Or.inl (by decide)), stI_o (f2 := 4) (Or.inl (by decide)), stI_o (f2 := 5) (Or.inl (by decide)), stI_o (f2 := 6) (Or.inl (by decide)), stI_o (f2 := 8) (Or.inl (by decide)), stI_s]
    by_cases q : 0 < l' - nn
    · have q2 : (0 : Int32) < nI (l' - nn) := by
        rw [show (0 : Int32) = nI 0 from rfl, nI_ltI (by decide) (by omega)]
        exact q
      rw [if_pos q2]
      obtain ⟨h1, h2, h4, h5, -⟩ := hl
      refine ⟨h1, h2, h4, ?_, fun _ => by rw [ixN_nI (by omega)]; omega⟩
      show S.2.1 7 j = 3 ↔ _
      rw [hz]
      exact h5
    · have q2 : ¬ (0 : Int32) < nI (l' - nn) := by
        rw [show (0 : Int32) = nI 0 from rfl, nI_ltI (by decide) (by omega)]
        exact q
      rw [if_neg q2]
      obtain ⟨h1, h2, h4, h5, -⟩ := hl.st (z := 1) (Or.inl rfl)
      exact ⟨h1, h2, h4, h5, fun q => absurd q (by decide)⟩
  · exact li2_eq (fun f _ => by unfold lcut; rw [stI_o (Or.inr e), stI_o (Or.inr e)]) (h j hj)
theorem lx_pie {S : St} {i : Nat} {n : Int32} (hI : Inv S) (h : linX S) (hi : i < S.1 0 0) (h1 : rng n 1 (S.i 2 i)) (hz : S.i 7 i = 0) : linX (pieS S i n) := by
  unfold pieS
  refine li2_newL (lx_lcut hI h hi h1 hz) ?_
  show li1 (S.i 0 i) (S.i 4 i) (S.i 5 i) (S.i 6 i) 0 n (S.i 8 i)
  have hl := h i hi
  unfold li2 at hl
  rw [hz] at hl
  obtain ⟨h4, h2, h5, h6, -⟩ := hl
  obtain ⟨k', h', l', s', m', z', a1, a2, a3, a4, a5, a6, b0, b1, b2, b3, b6, b7⟩ := hI.2.2.1.1 i hi
  rw [b2] at h1
  exact ⟨h4, h2, h5, h6, fun _ => pos_ix (by omega) h1⟩
-- splice
theorem ix_pos {x : Int32} (h : 0 < x) : 1 ≤ ixN x := by
  obtain ⟨j, hj, rfl⟩ := nI_of (x := x) (fun q => by rw [Int32.lt_iff_toInt_lt] at h q; have e0 : (0 : Int32).toInt = 0 := rfl; omega)
  rw [show (0 : Int32) = nI 0 from rfl, nI_ltI (by decide) hj] at h
  rw [ixN_nI hj]
  exact h
theorem lx_spl {S : St} {i j : Nat} {n : Int32} (hI : Inv S) (h : linX S) (hi : i < S.1 0 0) (hj : j < S.1 0 0) (hij : i ≠ j) (hm : mayS S i j n) : linX (splS S i j n) := by
  obtain ⟨f1, f2, f3, f4, f5, f6⟩ := hm
  unfold splS
  have hb : ∀ n, 3 ^ n < 2 ^ 31 → imax (nI (3 ^ n)) (nI (3 ^ n)) = nI (3 ^ n) := fun n hn => by
    rw [imax_nI hn hn, Nat.max_self]
  refine li2_newL (linX_use (linX_use h f1.1) (by rw [use_o (Or.inr (Ne.symm hij))]; exact f2.1)) ?_
  show li1 (S.i 0 i) (imax (S.i 4 i) (S.i 4 j)) (S.i 5 i) 0 0 (S.i 2 i + S.i 2 j - n) (S.i 8 i)
  obtain ⟨h4, h2, h5, -, -⟩ := h i hi
  obtain ⟨g4, -, -, -, -⟩ := h j hj
  obtain ⟨k', h', l', s', m', z', a1, a2, a3, a4, a5, a6, b0, b1, b2, b3, b6, b7⟩ := hI.2.2.1.1 i hi
  have hk : ixN (S.i 0 i) ≤ 3 := by rw [b0, ixN_nI (by omega)]; exact a1
  refine ⟨?_, h2, h5, ⟨fun q => absurd q (by decide), fun q => by rw [show ixN (0 : Int32) = 0 from by decide] at q; omega⟩, fun _ => ix_pos f5⟩
  rw [h4, g4, ← f3]
  refine hb _ ?_
  have : ixN (S.i 0 i) = 0 ∨ ixN (S.i 0 i) = 1 ∨ ixN (S.i 0 i) = 2 ∨ ixN (S.i 0 i) = 3 := by omega
  rcases this with e | e | e | e <;> rw [e] <;> decide
-- lay
theorem lx_lay {S : St} {i j k : Nat} {n : Int32} (hI : Inv S) (h : linX S) (hi : i < S.1 0 0) (hj : j < S.1 0 0) (hk : k < S.1 0 0) (hij : i ≠ j) (hik : i ≠ k) (hjk : j ≠ k) (h1 : rng n 1 30) (hm : mayL S i j k n) : linX (layS S i j k n) := by
  obtain ⟨⟨z1, z2, z3⟩, ⟨k1, k2⟩, ⟨k3, k4⟩, k5, k6, k7⟩ := hm
  unfold layS
  refine li2_newL (linX_use (linX_use (linX_use h z1) (by rw [use_o (Or.inr (Ne.symm hij))]; exact z2)) (by rw [use_o (Or.inr (Ne.symm hjk)), use_o (Or.inr (Ne.symm hik))]; exact z3)) ?_
  show li1 (S.i 0 i + 1) (S.i 4 i + S.i 4 j + S.i 4 k) (S.i 5 i + S.i 5 j + S.i 5 k + tqS (othH (S.i 1 i)) (n * (S.i 4 i + S.i 4 j + S.i 4 k))) 0 0 (layL S i j k n) (S.i 8 i + S.i 8 j + S.i 8 k)
  obtain ⟨p4, p8, p5, -, -⟩ := h i hi
  obtain ⟨q4, q8, q5, -, -⟩ := h j hj
  obtain ⟨r4, r8, r5, -, -⟩ := h k hk
  rw [← k1] at q4 q8 q5
  rw [← k3] at r4 r8 r5
  obtain ⟨k', h', l', s', m', z', a1, a2, a3, a4, a5, a6, b0, b1, b2, b3, b6, b7⟩ := hI.2.2.1.1 i hi
  have hk2 : k' ≤ 2 := by
    rcases (show k' = 3 ∨ k' ≤ 2 by omega) with e | e
    · rw [b0, e] at k5
      exact absurd rfl k5
    · exact e
  have hk0 : ixN (S.i 0 i) = k' := by rw [b0, ixN_nI (by omega)]
  have hk1 : ixN (S.i 0 i + 1) = k' + 1 := by rw [b0, ← nI_succ, ixN_nI (by omega)]
  rw [hk0] at p4 p8 p5 q4 q8 q5 r4 r8 r5
  have hw : S.i 4 i + S.i 4 j + S.i 4 k = nI (3 ^ (k' + 1)) := by
    rw [p4, q4, r4, nI_add, nI_add, Nat.pow_succ]
    congr 1
    omega
  obtain ⟨t, t1, t2, rfl⟩ := rng1_nat (b := 30) (by decide) h1
  refine ⟨by rw [hk1]; exact hw, ?_, ?_, ⟨fun q => absurd q (by decide), fun q => by rw [show ixN (0 : Int32) = 0 from by decide] at q; omega⟩, fun _ => ix_pos k6⟩
  · rw [hk1, p8, q8, r8, nI_add, nI_add, Nat.pow_succ]
    congr 1
    omega
  · rw [hk1, hw, pk_mul]
    have hM : 3 * tqM k' + 30 * 3 ^ (k' + 1) = tqM (k' + 1) ∧ tqM (k' + 1) ≤ 3240 ∧ 3 ^ (k' + 1) ≤ 27 := by
      have : k' = 0 ∨ k' = 1 ∨ k' = 2 := by omega
      rcases this with rfl | rfl | rfl <;> decide
    obtain ⟨hM1, hM2, hM3⟩ := hM
    have htw : t * 3 ^ (k' + 1) ≤ 30 * 3 ^ (k' + 1) := Nat.mul_le_mul_right _ t2
    unfold tqB at p5 q5 r5 ⊢
    generalize tqM k' = M at *
    generalize tqM (k' + 1) = M2 at *
    generalize t * 3 ^ (k' + 1) = W at *
    generalize 3 ^ (k' + 1) = V at *
    have e1 := i32_add (a := S.i 5 i) (b := S.i 5 j) (by omega) (by omega) (by omega) (by omega)
    have e2 := i32_add (a := S.i 5 i + S.i 5 j) (b := S.i 5 k) (by omega) (by omega) (by omega) (by omega)
    have eW : (nI W).toInt = (W : Int) := nI_toInt (by omega)
    have e3 : -(W : Int) ≤ (tqS (othH (S.i 1 i)) (nI W)).toInt ∧ (tqS (othH (S.i 1 i)) (nI W)).toInt ≤ (W : Int) := by
      unfold tqS
      split
      · rw [i32_neg (by omega) (by omega)]
        omega
      · omega
    have e4 := i32_add (a := S.i 5 i + S.i 5 j + S.i 5 k) (b := tqS (othH (S.i 1 i)) (nI W)) (by omega) (by omega) (by omega) (by omega)
    omega
-- loads, sun
theorem lx_harm {S : St} {i a : Nat} {x : Int32} (hI : Inv S) (h : linX S) (hi : i < S.1 0 0) (hz : S.i 7 i = 0) (hx : x = nI a) (ha : a ≤ 100) : linX (harmS S i (imin 1000 (S.i 6 i + x))) := fun j hj => by
  have hj : j < S.1 0 0 := hj
  obtain ⟨e6, e7, eo⟩ := harm_v (S := S) (i := i) (m := imin 1000 (S.i 6 i + x))
  by_cases e : j = i
  · subst e
    obtain ⟨k', h', l', s', m', z', a1, a2, a3, a4, a5, a6, b0, b1, b2, b3, b6, b7⟩ := hI.2.2.1.1 j hi
    have hm : imin 1000 (S.i 6 j + x) = nI (min 1000 (m' + a)) := by
      rw [b6, hx, nI_add, show (1000 : Int32) = nI 1000 from rfl, imin_nI (by decide) (by omega)]
    have hz : S.2.1 7 j = 0 := hz
    have hl := h j hj
    unfold li2 St.i at hl ⊢
    rw [eo 0 j (Or.inr (by decide)), eo 2 j (Or.inr (by decide)), eo 4 j (Or.inr (by decide)), eo 5 j (Or.inr (by decide)), eo 8 j (Or.inr (by decide)), e6, e7, hm, hz]
    rw [hz] at hl
    obtain ⟨h4, h2, h5, -, h7⟩ := hl
    refine ⟨h4, h2, h5, ?_, ?_⟩
    · rw [ixN_nI (by omega)]
      have hlt : nI (min 1000 (m' + a)) < 300 ↔ min 1000 (m' + a) < 300 := by
        rw [show (300 : Int32) = nI 300 from rfl]
        exact nI_ltI (by omega) (by decide)
      unfold wz
      by_cases q : nI (min 1000 (m' + a)) < 300
      · rw [if_pos q]
        have := hlt.mp q
        exact ⟨fun q => absurd q (by decide), fun q => by omega⟩
      · rw [if_neg q]
        exact ⟨fun _ => by
          rcases Nat.lt_or_ge (min 1000 (m' + a)) 300 with z | z
          · exact absurd (hlt.mpr z) q
          · exact z, fun _ => rfl⟩
    · intro _
      exact h7 rfl
  · exact li2_eq (fun f _ => eo f j (Or.inl e)) (h j hj)
theorem lx_load {S : St} {i : Nat} {f : Int32} (hI : Inv S) (h : linX S) (hi : i < S.1 0 0) (hz : S.i 7 i = 0) (hf : rng f 1 1000000) : linX (loadS S i f) := by
  unfold loadS
  obtain ⟨k, s, B, h1, -, -, h2, h3, e1, -⟩ := hI.2.2.1.1.bear hi
  have hp := pow3 h1
  by_cases q : bearS S i < f
  · rw [if_pos q]
    exact linX_st h hz (Or.inr rfl)
  · rw [if_neg q]
    obtain ⟨n, h5, h6, rfl⟩ := rng1_nat (b := 1000000) (by decide) hf
    rw [e1, nI_ltI (by omega) (by omega)] at q
    obtain ⟨q1, q2, q3⟩ := load_q h6 h5 (show n ≤ B by omega) (by omega)
    have hq : 10 * n / B * (10 * n / B) ≤ 10 * 10 := Nat.mul_le_mul q1 q1
    exact lx_harm (a := 10 * n / B * (10 * n / B)) hI h hi hz (by rw [e1, q2, pk_mul]) (by omega)
theorem oth_harm {S : St} {i : Nat} {m : Int32} : oth S (harmS S i m) := by
  unfold harmS
  exact (oth_stI (by decide)).tr (oth_stI (by decide))
theorem oth_load {S : St} {i : Nat} {f : Int32} : oth S (loadS S i f) := by
  unfold loadS
  split
  · exact oth_stI (by decide)
  · exact oth_harm
theorem lx_sun {x : Int32} {a : Nat} (hx : x = nI a) (ha : a ≤ 100) : ∀ (f i : Nat) (S : St) (c : Int32), Inv S → linX S → linX (sunF x f i S c).1 ∧ oth S (sunF x f i S c).1 ∧ (sunF x f i S c).1.1 = S.1
  | 0, _, _, _, _, h => ⟨h, oth.rf, rfl⟩
  | f + 1, i, S, c, hI, h => by
    unfold sunF
    by_cases q : i < S.nl ∧ S.i 7 i = 0
    · rw [if_pos q]
      obtain ⟨k1, k2, k3⟩ := lx_sun hx ha f (i + 1) _ (c + (if wz (imin 1000 (S.i 6 i + x)) (S.i 7 i) = 0 then 0 else 1)) (inv_harm hI q.1 hx ha) (lx_harm hI h q.1 q.2 hx ha)
      exact ⟨k1, oth_harm.tr k2, k3⟩
    · rw [if_neg q]
      exact lx_sun hx ha f (i + 1) _ _ hI h
theorem sun_c {x : Int32} : ∀ (f i : Nat) (S : St) (n : Nat), n + f ≤ 1000 → ∃ n2, n2 ≤ 1000 ∧ (sunF x f i S (nI n)).2 = nI n2
  | 0, _, _, n, h => ⟨n, by omega, rfl⟩
  | f + 1, i, S, n, h => by
    unfold sunF
    by_cases q : i < S.nl ∧ S.i 7 i = 0
    · rw [if_pos q]
      by_cases z : wz (imin 1000 (S.i 6 i + x)) (S.i 7 i) = 0
      · rw [if_pos z]
        have := sun_c (x := x) f (i + 1) (harmS S i (imin 1000 (S.i 6 i + x))) n (by omega)
        rw [show nI n = nI n + 0 from by rw [show (0 : Int32) = nI 0 from rfl, nI_add, Nat.add_zero]] at this
        exact this
      · rw [if_neg z, show nI n + 1 = nI (n + 1) from nI_1 n]
        exact sun_c f (i + 1) _ (n + 1) (by omega)
    · rw [if_neg q]
      exact sun_c f (i + 1) _ n (by omega)
-- the rest
theorem lx_tr {S S2 : St} (h0 : S2.1 0 0 = S.1 0 0) (hs : ∀ f, f < 9 → S2.2.1 f = S.2.1 f) (h : linX S) : linX S2 := fun i hi => by
  rw [h0] at hi
  exact li2_eq (fun f hf => by rw [hs f hf]) (h i hi)
theorem lx_rig {S : St} {li pn : Nat} {fr : Int32} (h : linX S) : linX (newR S li pn fr) := lx_tr (by simp [newR]) (fun f hf => funext fun i => by
  simp only [newR]
  rw [if_neg (by omega)]) h
theorem ov_rig {S : St} {li pn : Nat} {fr : Int32} (h : ovI S) : ovI (newR S li pn fr) := by
  have e1 : (newR S li pn fr).1 0 4 = S.1 0 4 := by simp [newR]
  have e2 : (newR S li pn fr).2.1 12 = S.2.1 12 := funext fun i => by simp [newR]
  unfold ovI
  rw [e1, e2]
  exact h
theorem ne_rig {S : St} {li pn : Nat} {fr : Int32} (h : ne7 S) : ne7 (newR S li pn fr) := by
  have e1 : (newR S li pn fr).1 0 2 = S.1 0 2 := by simp [newR]
  have e2 : (newR S li pn fr).1 5 0 = S.1 5 0 := by simp [newR]
  have e3 : (newR S li pn fr).1 6 0 = S.1 6 0 := by simp [newR]
  unfold ne7
  rw [e1, e2, e3]
  exact h
theorem tx_rig {S : St} {li pn : Nat} {fr : Int32} (h : TX S) : TX (newR S li pn fr) := ⟨lx_rig h.1, ov_rig h.2.1, ne_rig h.2.2⟩
theorem tx_tear {S : St} {n : Nat} {tb : Nat → Bool} (h : TX S) : TX (stT S n tb) := h
theorem tx_bra {S : St} {c : Nat} (h : TX S) : TX (brS S c) := by
  refine ⟨lx_tr (by simp [brS]) (fun f hf => funext fun i => by simp only [brS]; rw [if_neg (by omega)]) h.1, fun a b ha hb => ?_, ?_⟩
  · have e1 : (brS S c).1 0 4 = 0 := by simp [brS]
    have e2 : ∀ j, (brS S c).2.1 12 j = 0 := fun j => by simp [brS]
    rw [e1, e2, e2]
    decide
  · have e1 : (brS S c).1 0 2 = S.1 0 2 := by simp [brS]
    have e2 : (brS S c).1 5 0 = S.1 5 0 := by simp [brS]
    have e3 : (brS S c).1 6 0 = S.1 6 0 := by simp [brS]
    unfold ne7
    rw [e1, e2, e3]
    exact h.2.2
theorem ovS_s {F : Nat → Int32} {a b : Nat} {x : Int32} : ovS F a b x (8 * a + b) = F (8 * a + b) + x := by unfold ovS; exact upd_s
theorem ovS_n {F : Nat → Int32} {a b q : Nat} {x : Int32} (h : q ≠ 8 * a + b) : ovS F a b x q = F q := by unfold ovS; exact upd_n h
theorem tx_cross {S : St} {p : Nat} {x : Int32} (hB : braI S) (h : TX S) (hp : p < S.1 0 3 - 1) (hx : x = 1 ∨ x = -1) (hc : S.1 0 4 < 60) : TX (crS S p x) := by
  obtain ⟨hlt, hin, -⟩ := hB.sg
  have hca : S.1 0 3 ≤ 8 := hB.2.1
  refine ⟨lx_tr (by simp [crS]) (fun f hf => funext fun i => by simp only [crS]; rw [if_neg (by omega)]) h.1, ?_, ?_⟩
  · have e1 : (crS S p x).1 0 4 = S.1 0 4 + 1 := by simp [crS]
    have e2 : (crS S p x).2.1 12 = ovS (ovS (S.2.1 12) (S.1 4 p) (S.1 4 (p + 1)) x) (S.1 4 (p + 1)) (S.1 4 p) (-x) := funext fun j => by simp [crS]
    have ha := hlt p (by omega)
    have hb := hlt (p + 1) (by omega)
    have hab : S.1 4 p ≠ S.1 4 (p + 1) := fun e => by
      have := hin p (p + 1) (by omega) (by omega) e
      omega
    generalize S.1 4 p = a at ha hab e2
    generalize S.1 4 (p + 1) = b at hb hab e2
    have hxx : x.toInt = 1 ∧ (-x).toInt = -1 ∨ x.toInt = -1 ∧ (-x).toInt = 1 := by
      rcases hx with rfl | rfl
      · exact Or.inl ⟨by decide, by decide⟩
      · exact Or.inr ⟨by decide, by decide⟩
    have key : ∀ c e, c < 8 → e < 8 → ((crS S p x).2.1 12 (8 * c + e)).toInt = (S.2.1 12 (8 * c + e)).toInt + (if c = a ∧ e = b then x.toInt else if c = b ∧ e = a then (-x).toInt else 0) := fun c e hc8 he8 => by
      have hbd := h.2.1 c e hc8 he8
      rw [e2]
      by_cases q1 : c = b ∧ e = a
      · obtain ⟨rfl, rfl⟩ := q1
        rw [ovS_s, ovS_n (by omega), if_neg (fun z => hab z.1.symm), if_pos ⟨rfl, rfl⟩, i32_add (by omega) (by omega) (by omega) (by omega)]
      · rw [ovS_n (by omega)]
        by_cases q2 : c = a ∧ e = b
        · obtain ⟨rfl, rfl⟩ := q2
          rw [ovS_s, if_pos ⟨rfl, rfl⟩, i32_add (by omega) (by omega) (by omega) (by omega)]
        · rw [ovS_n (by omega), if_neg q2, if_neg q1, Int.add_zero]
    intro c e hc8 he8
    have hbd := h.2.1 c e hc8 he8
    rw [key c e hc8 he8, key e c he8 hc8, e1]
    by_cases q2 : c = a ∧ e = b
    · rw [if_pos q2, if_neg (fun z => hab (z.1.symm.trans q2.2) |> fun _ => hab (q2.1.symm.trans z.2)), if_pos ⟨q2.2, q2.1⟩]
      omega
    · by_cases q1 : c = b ∧ e = a
      · rw [if_neg q2, if_pos q1, if_pos ⟨q1.2, q1.1⟩]
        omega
      · rw [if_neg q2, if_neg q1, if_neg (fun z => q1 ⟨z.2, z.1⟩), if_neg (fun z => q2 ⟨z.2, z.1⟩)]
        omega
  · have e1 : (crS S p x).1 0 2 = S.1 0 2 := by simp [crS]
    have e2 : (crS S p x).1 5 0 = S.1 5 0 := by simp [crS]
    have e3 : (crS S p x).1 6 0 = S.1 6 0 := by simp [crS]
    unfold ne7
    rw [e1, e2, e3]
    exact h.2.2
theorem TX.oth {S S2 : St} (h : TX S) (hl : linX S2) (ho : oth S S2) : TX S2 := ⟨hl, ho.ov h.2.1, ho.ne h.2.2⟩
theorem oth_pie {S : St} {i : Nat} {n : Int32} : oth S (pieS S i n) := by
  unfold pieS lcut
  exact ((oth_stI (by decide)).tr (oth_stI (by decide))).tr oth_newL
theorem oth_spl {S : St} {i j : Nat} {n : Int32} : oth S (splS S i j n) := by
  unfold splS useS
  exact ((oth_stI (by decide)).tr (oth_stI (by decide))).tr oth_newL
theorem oth_lay {S : St} {i j k : Nat} {n : Int32} : oth S (layS S i j k n) := by
  unfold layS useS
  exact (((oth_stI (by decide)).tr (oth_stI (by decide))).tr (oth_stI (by decide))).tr oth_newL
