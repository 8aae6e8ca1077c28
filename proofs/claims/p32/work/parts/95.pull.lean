-- PURE: the least pull, both ways
def carN (f : Nat) : Nat → Nat → Nat → Nat
  | 0, _, all => all
  | n + 1, part, all => carN f n (part * (100 - f) / 100) (all + part)
theorem car_eq {f : Nat} (hf : f ≤ 50) : ∀ (n part all : Nat), part ≤ 1000000 → all + n * 1000000 ≤ 1000000000 → carL (nI f) n (lN part) (lN all) = lN (carN f n part all)
  | 0, _, _, _, _ => rfl
  | n + 1, part, all, hp, ha => by
    have hm : part * (100 - f) ≤ 1000000 * 100 := Nat.mul_le_mul hp (by omega)
    have hq : part * (100 - f) / 100 ≤ part := by
      have : part * (100 - f) ≤ part * 100 := Nat.mul_le_mul_left part (by omega)
      omega
    have e1 : ((100 : Int32) - nI f).toInt64 = lN (100 - f) := by
      rw [show (100 : Int32) = nI 100 from rfl, pk_sub (by omega), nI_l (by omega)]
    have e2 : lN part * (100 - nI f).toInt64 / 100 = lN (part * (100 - f) / 100) := by
      rw [e1, lN_mul, show (100 : Int64) = lN 100 from rfl, pk_lDiv (by omega) (by decide) (by decide)]
    show carL (nI f) n (lN part * (100 - nI f).toInt64 / 100) (lN all + lN part) = lN (carN f n (part * (100 - f) / 100) (all + part))
    rw [e2, lN_add]
    exact car_eq hf n _ _ (by omega) (by omega)
theorem carN_le {f : Nat} : ∀ (n part all : Nat), carN f n part all ≤ all + n * part
  | 0, part, all => by show all ≤ _; omega
  | n + 1, part, all => by
    have h := carN_le (f := f) n (part * (100 - f) / 100) (all + part)
    have hq : part * (100 - f) / 100 ≤ part := by
      have : part * (100 - f) ≤ part * 100 := Nat.mul_le_mul_left part (by omega)
      omega
    have h2 : n * (part * (100 - f) / 100) ≤ n * part := Nat.mul_le_mul_left n hq
    show carN f n (part * (100 - f) / 100) (all + part) ≤ _
    rw [Nat.succ_mul]
    omega
theorem carN_mono {f : Nat} : ∀ (n : Nat) {p p2 a a2 : Nat}, p ≤ p2 → a ≤ a2 → carN f n p a ≤ carN f n p2 a2
  | 0, _, _, _, _, _, ha => ha
  | n + 1, p, p2, a, a2, hp, ha => carN_mono n (Nat.div_le_div_right (Nat.mul_le_mul_right _ hp)) (by omega)
theorem carN_ge {f : Nat} : ∀ (n p a : Nat), a ≤ carN f n p a
  | 0, _, _ => Nat.le_refl _
  | n + 1, p, a => by
    have := carN_ge (f := f) n (p * (100 - f) / 100) (a + p)
    show a ≤ carN f n (p * (100 - f) / 100) (a + p)
    omega
/-- C never falls, and carries enough from L on -/
def okC (C : Nat → Nat) (L : Nat) : Prop := (∀ p q, p ≤ q → C p ≤ C q) ∧ L ≤ C L
theorem least_ex {C : Nat → Nat} {L : Nat} (h : okC C L) : ∃ p, p ≤ L ∧ L ≤ C p ∧ ∀ q, q < p → C q < L := by
  have key : ∀ n, n ≤ L → (∀ q, q < n → C q < L) ∨ ∃ p, p ≤ L ∧ L ≤ C p ∧ ∀ q, q < p → C q < L := by
    intro n
    induction n with
    | zero => intro _; exact Or.inl (fun q hq => absurd hq (Nat.not_lt_zero q))
    | succ n ih =>
      intro hn
      rcases ih (by omega) with h1 | h1
      · rcases Nat.lt_or_ge (C n) L with h2 | h2
        · refine Or.inl (fun q hq => ?_)
          rcases Nat.lt_or_ge q n with h3 | h3
          · exact h1 q h3
          · rw [show q = n by omega]
            exact h2
        · exact Or.inr ⟨n, by omega, h2, h1⟩
      · exact Or.inr h1
  rcases key L (Nat.le_refl _) with h1 | h1
  · exact ⟨L, Nat.le_refl _, h.2, h1⟩
  · exact h1
theorem pl_down {C : Nat → Nat} {c : Int32 → Int64} {L p0 : Nat} (hL : L ≤ 1000000) (hc : ∀ x, x ≤ 1000000 → c (nI x) = lN (C x)) (hb : ∀ x, x ≤ 1000000 → C x < 2 ^ 40) (h : okC C L) (h1 : L ≤ C p0) (h2 : ∀ q, q < p0 → C q < L) : ∀ (j q p : Nat), q = (2 ^ j) / 2 → j ≤ 20 → p0 ≤ p → p < p0 + 2 ^ j → p ≤ L → plC c (nI L) (j + 1) q (nI p) = nI p0
  | 0, q, p, hq, _, hp1, hp2, hpL => by
    have hq : q = 0 := hq
    subst hq
    have hp2 : p < p0 + 1 := hp2
    show (if 0 = 0 then nI p else _) = nI p0
    rw [if_pos rfl, show p = p0 by omega]
  | j + 1, q, p, hq, hj, hp1, hp2, hpL => by
    have hq : q = 2 ^ j := by rw [hq, Nat.pow_succ]; omega
    have hpow : 0 < 2 ^ j := Nat.pow_pos (by decide)
    have hp3 : 2 ^ j ≤ 2 ^ 20 := Nat.pow_le_pow_right (by decide) (by omega)
    rw [Nat.pow_succ] at hp2
    have hp3 : 2 ^ j ≤ 1048576 := hp3
    unfold plC
    rw [if_neg (by omega)]
    have hlt : nI p < nI q ↔ p < q := nI_ltI (by omega) (by omega)
    have hq2 : q / 2 = 2 ^ j / 2 := by rw [hq]
    rcases Nat.lt_or_ge p q with e | e
    · rw [if_pos (hlt.mpr e)]
      exact pl_down hL hc hb h h1 h2 j (q / 2) p hq2 (by omega) hp1 (by omega) hpL
    · rw [if_neg (fun z => by have := hlt.mp z; omega), pk_sub e, hc (p - q) (by omega), nI_l (by omega)]
      have hlt2 : lN (C (p - q)) < lN L ↔ C (p - q) < L := pk_lLT (by have := hb (p - q) (by omega); omega) (by omega)
      rcases Nat.lt_or_ge (C (p - q)) L with e2 | e2
      · rw [if_pos (hlt2.mpr e2)]
        have : p - q < p0 := by
          rcases Nat.lt_or_ge (p - q) p0 with e3 | e3
          · exact e3
          · have := h.1 p0 (p - q) e3
            omega
        exact pl_down hL hc hb h h1 h2 j (q / 2) p hq2 (by omega) hp1 (by omega) hpL
      · rw [if_neg (fun z => by have := hlt2.mp z; omega)]
        have : p0 ≤ p - q := by
          rcases Nat.lt_or_ge (p - q) p0 with e3 | e3
          · have := h2 (p - q) e3
            omega
          · exact e3
        exact pl_down hL hc hb h h1 h2 j (q / 2) (p - q) hq2 (by omega) this (by omega) (by omega)
theorem bs_down {C : Nat → Nat} {c : Int32 → Int64} {L p0 : Nat} (hL : L ≤ 1000000) (hc : ∀ x, x ≤ 1000000 → c (nI x) = lN (C x)) (hb : ∀ x, x ≤ 1000000 → C x < 2 ^ 40) (h : okC C L) (h1 : L ≤ C p0) (h2 : ∀ q, q < p0 → C q < L) : ∀ (f lo hi : Nat), lo ≤ p0 → p0 ≤ hi → hi ≤ L → hi - lo < f → bsF c (nI L) f lo hi = p0
  | 0, _, _, _, _, _, hf => absurd hf (Nat.not_lt_zero _)
  | f + 1, lo, hi, hlo, hhi, hhL, hf => by
    unfold bsF
    by_cases e : lo < hi
    · rw [if_pos e, hc _ (by omega), nI_l (by omega)]
      have hlt2 : lN (C ((lo + hi) / 2)) < lN L ↔ C ((lo + hi) / 2) < L := pk_lLT (by have := hb ((lo + hi) / 2) (by omega); omega) (by omega)
      rcases Nat.lt_or_ge (C ((lo + hi) / 2)) L with e2 | e2
      · rw [if_pos (hlt2.mpr e2)]
        have : (lo + hi) / 2 < p0 := by
          rcases Nat.lt_or_ge ((lo + hi) / 2) p0 with e3 | e3
          · exact e3
          · have := h.1 p0 _ e3
            omega
        exact bs_down hL hc hb h h1 h2 f _ _ (by omega) hhi hhL (by omega)
      · rw [if_neg (fun z => by have := hlt2.mp z; omega)]
        have : p0 ≤ (lo + hi) / 2 := by
          rcases Nat.lt_or_ge ((lo + hi) / 2) p0 with e3 | e3
          · have := h2 _ e3
            omega
          · exact e3
        exact bs_down hL hc hb h h1 h2 f _ _ hlo this (by omega) (by omega)
    · rw [if_neg e]
      omega
/-- the rigs as the calls keep them -/
def rigI (S : St) : Prop := ∀ r, r < S.nr → S.1 1 r < S.nl ∧ 1 ≤ S.1 2 r ∧ S.1 2 r ≤ 6 ∧ ∃ f, f ≤ 50 ∧ S.i 11 r = nI f
theorem pl_both {S : St} (hI : rigI S) {q L : Nat} (hq : q < S.nr) (hL : L ≤ 1000000) : ∃ p0, p0 ≤ L ∧ nI (bsS S q L) = nI p0 ∧ plS S q (nI L) = nI p0 ∧ (0 < L → 0 < p0) := by
  obtain ⟨h1, h2, h3, f, hf, hfe⟩ := hI q hq
  obtain ⟨pn, hpn⟩ : ∃ pn, pn = S.1 2 q := ⟨_, rfl⟩
  rw [← hpn] at h2 h3
  have hC : okC (fun x => carN f pn x 0) L := by
    refine ⟨fun p q hpq => carN_mono pn hpq (Nat.le_refl _), ?_⟩
    show L ≤ carN f pn L 0
    obtain ⟨n, rfl⟩ : ∃ n, pn = n + 1 := ⟨pn - 1, by omega⟩
    have := carN_ge (f := f) n (L * (100 - f) / 100) (0 + L)
    show L ≤ carN f n (L * (100 - f) / 100) (0 + L)
    omega
  have hc : ∀ x, x ≤ 1000000 → (fun x : Int32 => carL (S.i 11 q) (S.1 2 q) x.toInt64 0) (nI x) = lN ((fun x => carN f pn x 0) x) := fun x hx => by
    show carL (S.i 11 q) (S.1 2 q) (nI x).toInt64 0 = lN (carN f pn x 0)
    rw [hfe, ← hpn, nI_l (by omega)]
    exact car_eq hf pn x 0 hx (by omega)
  have hb : ∀ x, x ≤ 1000000 → (fun x => carN f pn x 0) x < 2 ^ 40 := fun x hx => by
    show carN f pn x 0 < 2 ^ 40
    have := carN_le (f := f) pn x 0
    have h4 : pn * x ≤ 6 * 1000000 := Nat.mul_le_mul h3 hx
    omega
  obtain ⟨p0, e1, e2, e3⟩ := least_ex hC
  refine ⟨p0, e1, ?_, ?_, fun hL0 => ?_⟩
  · unfold bsS
    rw [bs_down (C := fun x => carN f pn x 0) (c := fun x : Int32 => carL (S.i 11 q) (S.1 2 q) x.toInt64 0) hL hc hb hC e2 e3 (L + 1) 0 L (Nat.zero_le _) e1 (Nat.le_refl _) (by omega)]
  · unfold plS
    have h20 : (2 : Nat) ^ 20 = 1048576 := by decide
    exact pl_down (C := fun x => carN f pn x 0) (c := fun x : Int32 => carL (S.i 11 q) (S.1 2 q) x.toInt64 0) hL hc hb hC e2 e3 20 524288 L (by decide) (Nat.le_refl _) e1 (by rw [h20]; omega) (Nat.le_refl _)
  · rcases Nat.eq_zero_or_pos p0 with e | e
    · subst e
      have e2 : L ≤ carN f pn 0 0 := e2
      have := carN_le (f := f) pn 0 0
      omega
    · exact e
