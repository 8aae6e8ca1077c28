-- THE RESULTS OF THE CALLS, as functions of the state (written by gen/wrap.py)
noncomputable def ck {α : Type} (P : Prop) (a b : α) : α := @ite α P (Classical.propDecidable P) a b
theorem ck_p {α : Type} {P : Prop} {a b : α} (h : P) : ck P a b = a := @if_pos P (Classical.propDecidable P) h α a b
theorem ck_n {α : Type} {P : Prop} {a b : α} (h : ¬ P) : ck P a b = b := @if_neg P (Classical.propDecidable P) h α a b
abbrev noP : Int64 := -9000000000000000001
abbrev noV : Int64 := -9000000000000000002
abbrev noW : Int64 := -9000000000000000003
abbrev RS : Type := Int64 × St
theorem isX_ix {n : Nat} {x : Int32} (hn : n < 2 ^ 31) (h : isX n x) : ixN x < n := by
  obtain ⟨i, hi, -, e⟩ := isX_of hn h
  rw [e]
  exact hi
theorem isX_ne {n : Nat} {x y : Int32} (hn : n < 2 ^ 31) (h : isX n x) (h2 : isX n y) (hne : ¬ x = y) : ixN x ≠ ixN y := fun e => by
  obtain ⟨i, hi, e1, e2⟩ := isX_of hn h
  obtain ⟨j, hj, e3, e4⟩ := isX_of hn h2
  rw [e2, e4] at e
  exact hne (by rw [e1, e3, e])
theorem rix {x : Int32} {b : Nat} (hb : b + 1 < 2 ^ 31) (h : rng x 1 (nI b)) : 1 ≤ ixN x ∧ ixN x ≤ b := by
  obtain ⟨n, h1, h2, -, h4⟩ := rng_pos hb h
  rw [h4]
  exact ⟨h1, h2⟩
theorem r38 {x : Int32} (h : rng x 3 8) : 3 ≤ ixN x ∧ ixN x ≤ 8 := by
  obtain ⟨q1, q2⟩ := h
  have hn0 : ¬ x < 0 := fun h => by
    rw [Int32.lt_iff_toInt_lt] at h q1
    have e2 : (3 : Int32).toInt = 3 := rfl
    have e0 : (0 : Int32).toInt = 0 := rfl
    omega
  obtain ⟨t, t1, rfl, e⟩ := rng_nat (b := 8) (by decide) hn0 q2
  rw [e]
  refine ⟨?_, t1⟩
  rw [show (3 : Int32) = nI 3 from rfl, nI_ltI (by omega) (by decide)] at q1
  omega
theorem stkF_ok {S : St} {kd ln : Int32} : ∀ (f i : Nat) (b : Option Nat), (∀ x, b = some x → okStk S ln x) → ∀ x, stkF S kd ln f i b = some x → okStk S ln x
  | 0, _, _, h => h
  | f + 1, i, b, h => stkF_ok f (i + 1) _ (stkN_ok h)
theorem stkS_ok {S : St} {kd ln : Int32} {i : Nat} (h : stkS S kd ln = some i) : okStk S ln i := stkF_ok 60 0 none (fun x hx => by cases hx) i h
-- there are labels of every net, so both ways of the class agree
theorem least_of {p : Nat → Prop} : ∀ n, p n → ∃ m, m ≤ n ∧ p m ∧ ∀ k, k < m → ¬ p k := by
  have key : ∀ n m, m ≤ n → p m → ∃ m2, m2 ≤ m ∧ p m2 ∧ ∀ k, k < m2 → ¬ p k := by
    intro n
    induction n with
    | zero =>
      intro m hm hp
      have : m = 0 := by omega
      subst this
      exact ⟨0, Nat.le_refl _, hp, fun k hk => absurd hk (Nat.not_lt_zero k)⟩
    | succ n ih =>
      intro m hm hp
      by_cases h : ∃ k, k < m ∧ p k
      · obtain ⟨k, hk, hpk⟩ := h
        obtain ⟨m2, h1, h2, h3⟩ := ih k (by omega) hpk
        exact ⟨m2, by omega, h2, h3⟩
      · exact ⟨m, Nat.le_refl _, hp, fun k hk hpk => h ⟨k, hk, hpk⟩⟩
  exact fun n hp => key n n (Nat.le_refl _) hp
theorem labO_ex (T : Nat → Bool) : ∃ lab, labO T lab := by
  have h : ∀ v, ∃ m, m ≤ v ∧ (∀ P, clsM T P → (P v ↔ P m)) ∧ ∀ k, k < m → ¬ ∀ P, clsM T P → (P v ↔ P k) := fun v => least_of (p := fun m => ∀ P, clsM T P → (P v ↔ P m)) v (fun P _ => Iff.rfl)
  refine ⟨fun v => Classical.choose (h v), fun v hv => ?_, fun k hk hT => ?_⟩
  · obtain ⟨h1, h2, -⟩ := Classical.choose_spec (h v)
    exact ⟨by show Classical.choose (h v) < 121; omega, h2⟩
  · obtain ⟨-, u2, u3⟩ := Classical.choose_spec (h (upK k))
    obtain ⟨-, l2, l3⟩ := Classical.choose_spec (h (loK k))
    show Classical.choose (h (upK k)) = Classical.choose (h (loK k))
    have hul : ∀ P, clsM T P → (P (upK k) ↔ P (loK k)) := fun P hP => hP k hk hT
    rcases Nat.lt_trichotomy (Classical.choose (h (upK k))) (Classical.choose (h (loK k))) with e | e | e
    · exact absurd (fun P hP => (hul P hP).symm.trans (u2 P hP)) (l3 _ e)
    · exact e
    · exact absurd (fun P hP => (hul P hP).trans (l2 P hP)) (u3 _ e)
theorem fwS_twA {S : St} {i : Nat} (hi : i < S.nn) (Q : Nat → Nat) : fwS (S.tn i) Q = twA (S.tn i) := by
  obtain ⟨lab, h⟩ := labO_ex (fun k => tnM S (220 * i + k))
  obtain ⟨h1, h2⟩ := twines_eq hi h Q
  rw [← h1, h2]
