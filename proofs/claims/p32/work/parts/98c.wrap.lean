-- THE RESULTS OF THE CALLS, as functions of the state (written by gen/wrap.py)
noncomputable def ck {α : Type} (P : Prop) (a b : α) : α := @ite α P (Classical.propDecidable P) a b
theorem ck_p {α : Type} {P : Prop} {a b : α} (h : P) : ck P a b = a := @if_pos P (Classical.propDecidable P) h α a b
theorem ck_n {α : Type} {P : Prop} {a b : α} (h : ¬ P) : ck P a b = b := @if_neg P (Classical.propDecidable P) h α a b
abbrev noP : Int64 := -9000000000000000001
abbrev noV : Int64 := -9000000000000000002
abbrev noW : Int64 := -9000000000000000003
abbrev RS : Type := Int64 × St
theorem isX_ix {n : Nat} {x : Int32} (hn : n < 2 ^ 31) (h : isX n x) : ixN x < n := by
  obtain ⟨i, hi, -, e⟩ := isX_of hn h
  rw [e]
  exact hi
theorem isX_ne {n : Nat} {x y : Int32} (hn : n < 2 ^ 31) (h : isX n x) (h2 : isX n y) (hne : ¬ x = y) : ixN x ≠ ixN y := fun e => by
  obtain ⟨i, hi, e1, e2⟩ := isX_of hn h
  obtain ⟨j, hj, e3, e4⟩ := isX_of hn h2
  rw [e2, e4] at e
  exact hne (by rw [e1, e3, e])
theorem rix {x : Int32} {b : Nat} (hb : b + 1 < 2 ^ 31) (h : rng x 1 (nI b)) : 1 ≤ ixN x ∧ ixN x ≤ b := by
  obtain ⟨n, h1, h2, -, h4⟩ := rng_pos hb h
  rw [h4]
  exact ⟨h1, h2⟩
theorem r38 {x : Int32} (h : rng x 3 8) : 3 ≤ ixN x ∧ ixN x ≤ 8 := by
  obtain ⟨q1, q2⟩ := h
  have hn0 : ¬ x < 0 := fun h => by
    rw [Int32.lt_iff_toInt_lt] at h q1
    have e2 : (3 : Int32).toInt = 3 := rfl
    have e0 : (0 : Int32).toInt = 0 := rfl
    omega
  obtain ⟨t, t1, rfl, e⟩ := rng_nat (b := 8) (by decide) hn0 q2
  rw [e]
  refine ⟨?_, t1⟩
  rw [show (3 : Int32) = nI 3 from rfl, nI_ltI (by omega) (by decide)] at q1
  omega
theorem stkF_ok {S : St} {kd ln : Int32} : ∀ (f i : Nat) (b : Option Nat), (∀ x, b = some x → okStk S ln x) → ∀ x, stkF S kd ln f i b = some x → okStk S ln x
  | 0, _, _, h => h
  | f + 1, i, b, h => stkF_ok f (i + 1) _ (stkN_ok h)
theorem stkS_ok {S : St} {kd ln : Int32} {i : Nat} (h : stkS S kd ln = some i) : okStk S ln i := stkF_ok 60 0 none (fun x hx => by cases hx) i h
-- there are labels of every net, so both ways of the class agree
theorem least_of {p : Nat → Prop} : ∀ n, p n → ∃ m, m ≤ n ∧ p m ∧ ∀ k, k < m → ¬ p k := by
  have key : ∀ n m, m ≤ n → p m → ∃ m2, m2 ≤ m ∧ p m2 ∧ ∀ k, k < m2 → ¬ p k := by
    intro n
    induction n with
    | zero =>
      intro m hm hp
      have : m = 0 := by omega
      subst this
      exact ⟨0, Nat.le_refl _, hp, fun k hk => absurd hk (Nat.not_lt_zero k)⟩
    | succ n ih =>
      intro m hm hp
      by_cases h : ∃ k, k < m ∧ p k
      · obtain ⟨k, hk, hpk⟩ := h
        obtain ⟨m2, h1, h2, h3⟩ := ih k (by omega) hpk
        exact ⟨m2, by omega, h2, h3⟩
      · exact ⟨m, Nat.le_refl _, hp, fun k hk hpk => h ⟨k, hk, hpk⟩⟩
  exact fun n hp => key n n (Nat.le_refl _) hp
theorem labO_ex (T : Nat → Bool) : ∃ lab, labO T lab := by
  have h : ∀ v, ∃ m, m ≤ v ∧ (∀ P, clsM T P → (P v ↔ P m)) ∧ ∀ k, k < m → ¬ ∀ P, clsM T P → (P v ↔ P k) := fun v => least_of (p := fun m => ∀ P, clsM T P → (P v ↔ P m)) v (fun P _ => Iff.rfl)
  refine ⟨fun v => Classical.choose (h v), fun v hv => ?_, fun k hk hT => ?_⟩
  · obtain ⟨h1, h2, -⟩ := Classical.choose_spec (h v)
    exact ⟨by show Classical.choose (h v) < 121; omega, h2⟩
  · obtain ⟨-, u2, u3⟩ := Classical.choose_spec (h (upK k))
    obtain ⟨-, l2, l3⟩ := Classical.choose_spec (h (loK k))
    show Classical.choose (h (upK k)) = Classical.choose (h (loK k))
    have hul : ∀ P, clsM T P → (P (upK k) ↔ P (loK k)) := fun P hP => hP k hk hT
    rcases Nat.lt_trichotomy (Classical.choose (h (upK k))) (Classical.choose (h (loK k))) with e | e | e
    · exact absurd (fun P hP => (hul P hP).symm.trans (u2 P hP)) (l3 _ e)
    · exact e
    · exact absurd (fun P hP => (hul P hP).trans (l2 P hP)) (u3 _ e)
theorem fwS_twA {S : St} {i : Nat} (hi : i < S.nn) (Q : Nat → Nat) : fwS (S.tn i) Q = twA (S.tn i) := by
  obtain ⟨lab, h⟩ := labO_ex (fun k => tnM S (220 * i + k))
  obtain ⟨h1, h2⟩ := twines_eq hi h Q
  rw [← h1, h2]
noncomputable def rs_fibre (S : St) (x y z : Int32) : RS := ck (¬ isX 4 x) (noP, S) (ck (¬ (rng y 1 1000 ∧ rng z 1 100)) (noV, S) ((0, stI (stI S 9 (ixN x) y) 10 (ixN x) z)))
theorem rs_fibre_k1 {S : St} {x y z : Int32} (q0 : ¬ isX 4 x) : rs_fibre S x y z = (noP, S) := ck_p q0
theorem rs_fibre_k2 {S : St} {x y z : Int32} (q1 : isX 4 x) (q0 : ¬ (rng y 1 1000 ∧ rng z 1 100)) : rs_fibre S x y z = (noV, S) := (ck_n (fun h9 => h9 q1)).trans (ck_p q0)
theorem rs_fibre_k0 {S : St} {x y z : Int32} (q1 : isX 4 x) (q2 : rng y 1 1000) (q3 : rng z 1 100) : rs_fibre S x y z = (0, stI (stI S 9 (ixN x) y) 10 (ixN x) z) := (ck_n (fun h9 => h9 q1)).trans ((ck_n (fun h9 => h9 ⟨q2, q3⟩)).trans (rfl))
noncomputable def rs_spin (S : St) (x tw hd ln : Int32) : RS := ck (¬ isX 4 x) (noP, S) (ck (¬ (rng tw 1 30 ∧ rng hd 0 1 ∧ rng ln 1 10000)) (noV, S) (ck (¬ S.nl < 60) (noW, S) (((nI S.nl : Int32).toInt64, spnS S (ixN x) tw hd ln))))
theorem rs_spin_k1 {S : St} {x tw hd ln : Int32} (q0 : ¬ isX 4 x) : rs_spin S x tw hd ln = (noP, S) := ck_p q0
theorem rs_spin_k2 {S : St} {x tw hd ln : Int32} (q1 : isX 4 x) (q0 : ¬ (rng tw 1 30 ∧ rng hd 0 1 ∧ rng ln 1 10000)) : rs_spin S x tw hd ln = (noV, S) := (ck_n (fun h9 => h9 q1)).trans (ck_p q0)
theorem rs_spin_k3 {S : St} {x tw hd ln : Int32} (q1 : isX 4 x) (q2 : rng tw 1 30) (q3 : rng hd 0 1) (q4 : rng ln 1 10000) (q0 : ¬ S.nl < 60) : rs_spin S x tw hd ln = (noW, S) := (ck_n (fun h9 => h9 q1)).trans ((ck_n (fun h9 => h9 ⟨q2, q3, q4⟩)).trans (ck_p q0))
theorem rs_spin_k0 {S : St} {x tw hd ln : Int32} (q1 : isX 4 x) (q2 : rng tw 1 30) (q3 : rng hd 0 1) (q4 : rng ln 1 10000) (q5 : S.nl < 60) : rs_spin S x tw hd ln = ((nI S.nl : Int32).toInt64, spnS S (ixN x) tw hd ln) := (ck_n (fun h9 => h9 q1)).trans ((ck_n (fun h9 => h9 ⟨q2, q3, q4⟩)).trans ((ck_n (fun h9 => h9 q5)).trans (rfl)))
noncomputable def rs_lay (S : St) (x y z n : Int32) : RS := ck (¬ (isX S.nl x ∧ isX S.nl y ∧ isX S.nl z)) (noP, S) (ck (¬ ((¬ x = y ∧ ¬ x = z ∧ ¬ y = z) ∧ rng n 1 30)) (noV, S) (ck (¬ mayL S (ixN x) (ixN y) (ixN z) n) (noW, S) (((nI S.nl : Int32).toInt64, layS S (ixN x) (ixN y) (ixN z) n))))
theorem rs_lay_k1 {S : St} {x y z n : Int32} (q0 : ¬ (isX S.nl x ∧ isX S.nl y ∧ isX S.nl z)) : rs_lay S x y z n = (noP, S) := ck_p q0
theorem rs_lay_k2 {S : St} {x y z n : Int32} (q1 : isX S.nl x) (q2 : isX S.nl y) (q3 : isX S.nl z) (q0 : ¬ ((¬ x = y ∧ ¬ x = z ∧ ¬ y = z) ∧ rng n 1 30)) : rs_lay S x y z n = (noV, S) := (ck_n (fun h9 => h9 ⟨q1, q2, q3⟩)).trans (ck_p q0)
theorem rs_lay_k3 {S : St} {x y z n : Int32} (q1 : isX S.nl x) (q2 : isX S.nl y) (q3 : isX S.nl z) (q4 : (¬ x = y ∧ ¬ x = z ∧ ¬ y = z)) (q5 : rng n 1 30) (q0 : ¬ mayL S (ixN x) (ixN y) (ixN z) n) : rs_lay S x y z n = (noW, S) := (ck_n (fun h9 => h9 ⟨q1, q2, q3⟩)).trans ((ck_n (fun h9 => h9 ⟨q4, q5⟩)).trans (ck_p q0))
theorem rs_lay_k0 {S : St} {x y z n : Int32} (q1 : isX S.nl x) (q2 : isX S.nl y) (q3 : isX S.nl z) (q4 : (¬ x = y ∧ ¬ x = z ∧ ¬ y = z)) (q5 : rng n 1 30) (q6 : mayL S (ixN x) (ixN y) (ixN z) n) : rs_lay S x y z n = ((nI S.nl : Int32).toInt64, layS S (ixN x) (ixN y) (ixN z) n) := (ck_n (fun h9 => h9 ⟨q1, q2, q3⟩)).trans ((ck_n (fun h9 => h9 ⟨q4, q5⟩)).trans ((ck_n (fun h9 => h9 q6)).trans (rfl)))
noncomputable def rs_cut (S : St) (x ln : Int32) : RS := ck (¬ isX S.nl x) (noP, S) (ck (¬ rng ln 1 (S.i 2 (ixN x))) (noV, S) (ck (¬ (fitS S (ixN x) ∧ S.nl < 60)) (noW, S) (((nI S.nl : Int32).toInt64, pieS S (ixN x) ln))))
theorem rs_cut_k1 {S : St} {x ln : Int32} (q0 : ¬ isX S.nl x) : rs_cut S x ln = (noP, S) := ck_p q0
theorem rs_cut_k2 {S : St} {x ln : Int32} (q1 : isX S.nl x) (q0 : ¬ rng ln 1 (S.i 2 (ixN x))) : rs_cut S x ln = (noV, S) := (ck_n (fun h9 => h9 q1)).trans (ck_p q0)
theorem rs_cut_k3 {S : St} {x ln : Int32} (q1 : isX S.nl x) (q2 : rng ln 1 (S.i 2 (ixN x))) (q0 : ¬ (fitS S (ixN x) ∧ S.nl < 60)) : rs_cut S x ln = (noW, S) := (ck_n (fun h9 => h9 q1)).trans ((ck_n (fun h9 => h9 q2)).trans (ck_p q0))
theorem rs_cut_k0 {S : St} {x ln : Int32} (q1 : isX S.nl x) (q2 : rng ln 1 (S.i 2 (ixN x))) (q3 : fitS S (ixN x)) (q4 : S.nl < 60) : rs_cut S x ln = ((nI S.nl : Int32).toInt64, pieS S (ixN x) ln) := (ck_n (fun h9 => h9 q1)).trans ((ck_n (fun h9 => h9 q2)).trans ((ck_n (fun h9 => h9 ⟨q3, q4⟩)).trans (rfl)))
noncomputable def rs_order (S : St) (kd ln : Int32) : RS := ck (¬ (rng kd 0 3 ∧ rng ln 1 10000)) (noV, S) (ck (¬ S.nl < 60) (noW, S) (((stkS S kd ln).elim ((-1 : Int32).toInt64, S) (fun i => ((nI S.nl : Int32).toInt64, pieS S i ln)))))
theorem rs_order_k2 {S : St} {kd ln : Int32} (q0 : ¬ (rng kd 0 3 ∧ rng ln 1 10000)) : rs_order S kd ln = (noV, S) := ck_p q0
theorem rs_order_k3 {S : St} {kd ln : Int32} (q1 : rng kd 0 3) (q2 : rng ln 1 10000) (q0 : ¬ S.nl < 60) : rs_order S kd ln = (noW, S) := (ck_n (fun h9 => h9 ⟨q1, q2⟩)).trans (ck_p q0)
theorem rs_order_kn {S : St} {kd ln : Int32} (q1 : rng kd 0 3) (q2 : rng ln 1 10000) (q3 : S.nl < 60) (qs : stkS S kd ln = none) : rs_order S kd ln = ((-1 : Int32).toInt64, S) := (ck_n (fun h9 => h9 ⟨q1, q2⟩)).trans ((ck_n (fun h9 => h9 q3)).trans ((by rw [qs]; rfl)))
theorem rs_order_k0 {S : St} {kd ln : Int32} (q1 : rng kd 0 3) (q2 : rng ln 1 10000) (q3 : S.nl < 60) {i : Nat} (qs : stkS S kd ln = some i) : rs_order S kd ln = ((nI S.nl : Int32).toInt64, pieS S i ln) := (ck_n (fun h9 => h9 ⟨q1, q2⟩)).trans ((ck_n (fun h9 => h9 q3)).trans ((by rw [qs]; rfl)))
noncomputable def rs_splice (S : St) (x y n : Int32) : RS := ck (¬ (isX S.nl x ∧ isX S.nl y)) (noP, S) (ck (¬ (¬ x = y ∧ rng n 2 6)) (noV, S) (ck (¬ mayS S (ixN x) (ixN y) n) (noW, S) (((nI S.nl : Int32).toInt64, splS S (ixN x) (ixN y) n))))
theorem rs_splice_k1 {S : St} {x y n : Int32} (q0 : ¬ (isX S.nl x ∧ isX S.nl y)) : rs_splice S x y n = (noP, S) := ck_p q0
theorem rs_splice_k2 {S : St} {x y n : Int32} (q1 : isX S.nl x) (q2 : isX S.nl y) (q0 : ¬ (¬ x = y ∧ rng n 2 6)) : rs_splice S x y n = (noV, S) := (ck_n (fun h9 => h9 ⟨q1, q2⟩)).trans (ck_p q0)
theorem rs_splice_k3 {S : St} {x y n : Int32} (q1 : isX S.nl x) (q2 : isX S.nl y) (q3 : ¬ x = y) (q4 : rng n 2 6) (q0 : ¬ mayS S (ixN x) (ixN y) n) : rs_splice S x y n = (noW, S) := (ck_n (fun h9 => h9 ⟨q1, q2⟩)).trans ((ck_n (fun h9 => h9 ⟨q3, q4⟩)).trans (ck_p q0))
theorem rs_splice_k0 {S : St} {x y n : Int32} (q1 : isX S.nl x) (q2 : isX S.nl y) (q3 : ¬ x = y) (q4 : rng n 2 6) (q5 : mayS S (ixN x) (ixN y) n) : rs_splice S x y n = ((nI S.nl : Int32).toInt64, splS S (ixN x) (ixN y) n) := (ck_n (fun h9 => h9 ⟨q1, q2⟩)).trans ((ck_n (fun h9 => h9 ⟨q3, q4⟩)).trans ((ck_n (fun h9 => h9 q5)).trans (rfl)))
noncomputable def rs_load (S : St) (x f : Int32) : RS := ck (¬ isX S.nl x) (noP, S) (ck (¬ rng f 1 1000000) (noV, S) (ck (¬ fitS S (ixN x)) (noW, S) (((if (loadS S (ixN x) f).i 7 (ixN x) = 2 then -1 else (loadS S (ixN x) f).i 6 (ixN x) : Int32).toInt64, loadS S (ixN x) f))))
theorem rs_load_k1 {S : St} {x f : Int32} (q0 : ¬ isX S.nl x) : rs_load S x f = (noP, S) := ck_p q0
theorem rs_load_k2 {S : St} {x f : Int32} (q1 : isX S.nl x) (q0 : ¬ rng f 1 1000000) : rs_load S x f = (noV, S) := (ck_n (fun h9 => h9 q1)).trans (ck_p q0)
theorem rs_load_k3 {S : St} {x f : Int32} (q1 : isX S.nl x) (q2 : rng f 1 1000000) (q0 : ¬ fitS S (ixN x)) : rs_load S x f = (noW, S) := (ck_n (fun h9 => h9 q1)).trans ((ck_n (fun h9 => h9 q2)).trans (ck_p q0))
theorem rs_load_k0 {S : St} {x f : Int32} (q1 : isX S.nl x) (q2 : rng f 1 1000000) (q3 : fitS S (ixN x)) : rs_load S x f = ((if (loadS S (ixN x) f).i 7 (ixN x) = 2 then -1 else (loadS S (ixN x) f).i 6 (ixN x) : Int32).toInt64, loadS S (ixN x) f) := (ck_n (fun h9 => h9 q1)).trans ((ck_n (fun h9 => h9 q2)).trans ((ck_n (fun h9 => h9 q3)).trans (rfl)))
noncomputable def rs_sun (S : St) (x : Int32) : RS := ck (¬ rng x 1 1000) (noV, S) ((((sunF (x / 10) 60 0 S 0).2 : Int32).toInt64, (sunF (x / 10) 60 0 S 0).1))
theorem rs_sun_k2 {S : St} {x : Int32} (q0 : ¬ rng x 1 1000) : rs_sun S x = (noV, S) := ck_p q0
theorem rs_sun_k0 {S : St} {x : Int32} (q1 : rng x 1 1000) : rs_sun S x = (((sunF (x / 10) 60 0 S 0).2 : Int32).toInt64, (sunF (x / 10) 60 0 S 0).1) := (ck_n (fun h9 => h9 q1)).trans (rfl)
noncomputable def rs_lineOf (S : St) (x w : Int32) : RS := ck (¬ isX S.nl x) (noP, S) (ck (¬ rng w 0 9) (noV, S) (((toldL S (ixN x) w : Int32).toInt64, S)))
theorem rs_lineOf_k1 {S : St} {x w : Int32} (q0 : ¬ isX S.nl x) : rs_lineOf S x w = (noP, S) := ck_p q0
theorem rs_lineOf_k2 {S : St} {x w : Int32} (q1 : isX S.nl x) (q0 : ¬ rng w 0 9) : rs_lineOf S x w = (noV, S) := (ck_n (fun h9 => h9 q1)).trans (ck_p q0)
theorem rs_lineOf_k0 {S : St} {x w : Int32} (q1 : isX S.nl x) (q2 : rng w 0 9) : rs_lineOf S x w = ((toldL S (ixN x) w : Int32).toInt64, S) := (ck_n (fun h9 => h9 q1)).trans ((ck_n (fun h9 => h9 q2)).trans (rfl))
noncomputable def rs_yarns (S : St) (x : Int32) : RS := ck (¬ isX S.nl x) (noP, S) (((S.i 8 (ixN x) : Int32).toInt64, S))
theorem rs_yarns_k1 {S : St} {x : Int32} (q0 : ¬ isX S.nl x) : rs_yarns S x = (noP, S) := ck_p q0
theorem rs_yarns_k0 {S : St} {x : Int32} (q1 : isX S.nl x) : rs_yarns S x = ((S.i 8 (ixN x) : Int32).toInt64, S) := (ck_n (fun h9 => h9 q1)).trans (rfl)
noncomputable def rs_rig (S : St) (x y z : Int32) : RS := ck (¬ isX S.nl x) (noP, S) (ck (¬ (rng y 1 6 ∧ rng z 0 50)) (noV, S) (ck (¬ (fitS S (ixN x) ∧ S.nr < 12)) (noW, S) (((nI S.nr : Int32).toInt64, newR S (ixN x) (ixN y) z))))
theorem rs_rig_k1 {S : St} {x y z : Int32} (q0 : ¬ isX S.nl x) : rs_rig S x y z = (noP, S) := ck_p q0
theorem rs_rig_k2 {S : St} {x y z : Int32} (q1 : isX S.nl x) (q0 : ¬ (rng y 1 6 ∧ rng z 0 50)) : rs_rig S x y z = (noV, S) := (ck_n (fun h9 => h9 q1)).trans (ck_p q0)
theorem rs_rig_k3 {S : St} {x y z : Int32} (q1 : isX S.nl x) (q2 : rng y 1 6) (q3 : rng z 0 50) (q0 : ¬ (fitS S (ixN x) ∧ S.nr < 12)) : rs_rig S x y z = (noW, S) := (ck_n (fun h9 => h9 q1)).trans ((ck_n (fun h9 => h9 ⟨q2, q3⟩)).trans (ck_p q0))
theorem rs_rig_k0 {S : St} {x y z : Int32} (q1 : isX S.nl x) (q2 : rng y 1 6) (q3 : rng z 0 50) (q4 : fitS S (ixN x)) (q5 : S.nr < 12) : rs_rig S x y z = ((nI S.nr : Int32).toInt64, newR S (ixN x) (ixN y) z) := (ck_n (fun h9 => h9 q1)).trans ((ck_n (fun h9 => h9 ⟨q2, q3⟩)).trans ((ck_n (fun h9 => h9 ⟨q4, q5⟩)).trans (rfl)))
noncomputable def rs_pull (S : St) (x ld : Int32) : RS := ck (¬ isX S.nr x) (noP, S) (ck (¬ rng ld 0 1000000) (noV, S) (((plS S (ixN x) ld : Int32).toInt64, S)))
theorem rs_pull_k1 {S : St} {x ld : Int32} (q0 : ¬ isX S.nr x) : rs_pull S x ld = (noP, S) := ck_p q0
theorem rs_pull_k2 {S : St} {x ld : Int32} (q1 : isX S.nr x) (q0 : ¬ rng ld 0 1000000) : rs_pull S x ld = (noV, S) := (ck_n (fun h9 => h9 q1)).trans (ck_p q0)
theorem rs_pull_k0 {S : St} {x ld : Int32} (q1 : isX S.nr x) (q2 : rng ld 0 1000000) : rs_pull S x ld = ((plS S (ixN x) ld : Int32).toInt64, S) := (ck_n (fun h9 => h9 q1)).trans ((ck_n (fun h9 => h9 q2)).trans (rfl))
noncomputable def rs_lift (S : St) (x ld : Int32) : RS := ck (¬ isX S.nr x) (noP, S) (ck (¬ rng ld 1 1000000) (noV, S) ((ck (beaR S (ixN x) ld) (1, loadS S (S.1 1 (ixN x)) (plS S (ixN x) ld)) (0, S))))
theorem rs_lift_k1 {S : St} {x ld : Int32} (q0 : ¬ isX S.nr x) : rs_lift S x ld = (noP, S) := ck_p q0
theorem rs_lift_k2 {S : St} {x ld : Int32} (q1 : isX S.nr x) (q0 : ¬ rng ld 1 1000000) : rs_lift S x ld = (noV, S) := (ck_n (fun h9 => h9 q1)).trans (ck_p q0)
theorem rs_lift_kn {S : St} {x ld : Int32} (q1 : isX S.nr x) (q2 : rng ld 1 1000000) (q3 : ¬ beaR S (ixN x) ld) : rs_lift S x ld = (0, S) := (ck_n (fun h9 => h9 q1)).trans ((ck_n (fun h9 => h9 q2)).trans (ck_n q3))
theorem rs_lift_k0 {S : St} {x ld : Int32} (q1 : isX S.nr x) (q2 : rng ld 1 1000000) (q3 : beaR S (ixN x) ld) : rs_lift S x ld = (1, loadS S (S.1 1 (ixN x)) (plS S (ixN x) ld)) := (ck_n (fun h9 => h9 q1)).trans ((ck_n (fun h9 => h9 q2)).trans (ck_p q3))
noncomputable def rs_series (S : St) (x y ld : Int32) : RS := ck (¬ (isX S.nr x ∧ isX S.nr y)) (noP, S) (ck (¬ (¬ x = y ∧ rng ld 0 1000000)) (noV, S) ((ck (beaR S (ixN y) ld ∧ beaR S (ixN x) (plS S (ixN y) ld)) ((plS S (ixN x) (plS S (ixN y) ld) : Int32).toInt64, S) ((-1 : Int32).toInt64, S))))
theorem rs_series_k1 {S : St} {x y ld : Int32} (q0 : ¬ (isX S.nr x ∧ isX S.nr y)) : rs_series S x y ld = (noP, S) := ck_p q0
theorem rs_series_k2 {S : St} {x y ld : Int32} (q1 : isX S.nr x) (q2 : isX S.nr y) (q0 : ¬ (¬ x = y ∧ rng ld 0 1000000)) : rs_series S x y ld = (noV, S) := (ck_n (fun h9 => h9 ⟨q1, q2⟩)).trans (ck_p q0)
theorem rs_series_kn {S : St} {x y ld : Int32} (q1 : isX S.nr x) (q2 : isX S.nr y) (q3 : ¬ x = y) (q4 : rng ld 0 1000000) (q5 : ¬ (beaR S (ixN y) ld ∧ beaR S (ixN x) (plS S (ixN y) ld))) : rs_series S x y ld = ((-1 : Int32).toInt64, S) := (ck_n (fun h9 => h9 ⟨q1, q2⟩)).trans ((ck_n (fun h9 => h9 ⟨q3, q4⟩)).trans (ck_n q5))
theorem rs_series_k0 {S : St} {x y ld : Int32} (q1 : isX S.nr x) (q2 : isX S.nr y) (q3 : ¬ x = y) (q4 : rng ld 0 1000000) (q5 : beaR S (ixN y) ld) (q6 : beaR S (ixN x) (plS S (ixN y) ld)) : rs_series S x y ld = ((plS S (ixN x) (plS S (ixN y) ld) : Int32).toInt64, S) := (ck_n (fun h9 => h9 ⟨q1, q2⟩)).trans ((ck_n (fun h9 => h9 ⟨q3, q4⟩)).trans (ck_p ⟨q5, q6⟩))
noncomputable def rs_holds (S : St) (w gr ta sh : Int32) : RS := ck (¬ (rng w 0 20 ∧ rng gr 0 100 ∧ rng ta 0 1000 ∧ rng sh 0 50)) (noV, S) ((lmin (wrpF gr (ixN w) (shkF (ixN sh) ta.toInt64)) 1000000000, S))
theorem rs_holds_k2 {S : St} {w gr ta sh : Int32} (q0 : ¬ (rng w 0 20 ∧ rng gr 0 100 ∧ rng ta 0 1000 ∧ rng sh 0 50)) : rs_holds S w gr ta sh = (noV, S) := ck_p q0
theorem rs_holds_k0 {S : St} {w gr ta sh : Int32} (q1 : rng w 0 20) (q2 : rng gr 0 100) (q3 : rng ta 0 1000) (q4 : rng sh 0 50) : rs_holds S w gr ta sh = (lmin (wrpF gr (ixN w) (shkF (ixN sh) ta.toInt64)) 1000000000, S) := (ck_n (fun h9 => h9 ⟨q1, q2, q3, q4⟩)).trans (rfl)
noncomputable def rs_braid (S : St) (x : Int32) : RS := ck (¬ rng x 3 8) (noV, S) (((nI S.cr : Int32).toInt64, brS S (ixN x)))
theorem rs_braid_k2 {S : St} {x : Int32} (q0 : ¬ rng x 3 8) : rs_braid S x = (noV, S) := ck_p q0
theorem rs_braid_k0 {S : St} {x : Int32} (q1 : rng x 3 8) : rs_braid S x = ((nI S.cr : Int32).toInt64, brS S (ixN x)) := (ck_n (fun h9 => h9 q1)).trans (rfl)
noncomputable def rs_cross (S : St) (x z : Int32) : RS := ck (¬ isX (S.ca - 1) x) (noP, S) (ck (¬ S.cr < 60) (noW, S) (((nI (S.cr + 1) : Int32).toInt64, crS S (ixN x) (gnS z))))
theorem rs_cross_k1 {S : St} {x z : Int32} (q0 : ¬ isX (S.ca - 1) x) : rs_cross S x z = (noP, S) := ck_p q0
theorem rs_cross_k3 {S : St} {x z : Int32} (q1 : isX (S.ca - 1) x) (q0 : ¬ S.cr < 60) : rs_cross S x z = (noW, S) := (ck_n (fun h9 => h9 q1)).trans (ck_p q0)
theorem rs_cross_k0 {S : St} {x z : Int32} (q1 : isX (S.ca - 1) x) (q2 : S.cr < 60) : rs_cross S x z = ((nI (S.cr + 1) : Int32).toInt64, crS S (ixN x) (gnS z)) := (ck_n (fun h9 => h9 q1)).trans ((ck_n (fun h9 => h9 q2)).trans (rfl))
noncomputable def rs_carrier (S : St) (x : Int32) : RS := ck (¬ isX S.ca x) (noP, S) (((nI (S.1 4 (ixN x)) : Int32).toInt64, S))
theorem rs_carrier_k1 {S : St} {x : Int32} (q0 : ¬ isX S.ca x) : rs_carrier S x = (noP, S) := ck_p q0
theorem rs_carrier_k0 {S : St} {x : Int32} (q1 : isX S.ca x) : rs_carrier S x = ((nI (S.1 4 (ixN x)) : Int32).toInt64, S) := (ck_n (fun h9 => h9 q1)).trans (rfl)
noncomputable def rs_over (S : St) (x y : Int32) : RS := ck (¬ (isX S.ca x ∧ isX S.ca y)) (noP, S) (ck (x = y) (noV, S) (((S.i 12 (8 * ixN x + ixN y) : Int32).toInt64, S)))
theorem rs_over_k1 {S : St} {x y : Int32} (q0 : ¬ (isX S.ca x ∧ isX S.ca y)) : rs_over S x y = (noP, S) := ck_p q0
theorem rs_over_k2 {S : St} {x y : Int32} (q1 : isX S.ca x) (q2 : isX S.ca y) (q0 : x = y) : rs_over S x y = (noV, S) := (ck_n (fun h9 => h9 ⟨q1, q2⟩)).trans (ck_p q0)
theorem rs_over_k0 {S : St} {x y : Int32} (q1 : isX S.ca x) (q2 : isX S.ca y) (q3 : ¬ x = y) : rs_over S x y = ((S.i 12 (8 * ixN x + ixN y) : Int32).toInt64, S) := (ck_n (fun h9 => h9 ⟨q1, q2⟩)).trans ((ck_n q3).trans (rfl))
noncomputable def rs_net (S : St) (x y : Int32) : RS := ck (¬ (rng x 1 10 ∧ rng y 1 10)) (noV, S) (ck (¬ S.nn < 5) (noW, S) (((nI S.nn : Int32).toInt64, newN S (ixN x) (ixN y))))
theorem rs_net_k2 {S : St} {x y : Int32} (q0 : ¬ (rng x 1 10 ∧ rng y 1 10)) : rs_net S x y = (noV, S) := ck_p q0
theorem rs_net_k3 {S : St} {x y : Int32} (q1 : rng x 1 10) (q2 : rng y 1 10) (q0 : ¬ S.nn < 5) : rs_net S x y = (noW, S) := (ck_n (fun h9 => h9 ⟨q1, q2⟩)).trans (ck_p q0)
theorem rs_net_k0 {S : St} {x y : Int32} (q1 : rng x 1 10) (q2 : rng y 1 10) (q3 : S.nn < 5) : rs_net S x y = ((nI S.nn : Int32).toInt64, newN S (ixN x) (ixN y)) := (ck_n (fun h9 => h9 ⟨q1, q2⟩)).trans ((ck_n (fun h9 => h9 q3)).trans (rfl))
noncomputable def rs_tear (S : St) (n x y z : Int32) : RS := ck (¬ (isX S.nn n ∧ barS S (ixN n) x y z)) (noP, S) (ck (S.tn (ixN n) (barX x y z) = true) (noW, S) (((nI (cntB (setB (S.tn (ixN n)) (barX x y z)) 100) : Int32).toInt64, stT S (ixN n) (setB (S.tn (ixN n)) (barX x y z)))))
theorem rs_tear_k1 {S : St} {n x y z : Int32} (q0 : ¬ (isX S.nn n ∧ barS S (ixN n) x y z)) : rs_tear S n x y z = (noP, S) := ck_p q0
theorem rs_tear_k3 {S : St} {n x y z : Int32} (q1 : isX S.nn n) (q2 : barS S (ixN n) x y z) (q0 : S.tn (ixN n) (barX x y z) = true) : rs_tear S n x y z = (noW, S) := (ck_n (fun h9 => h9 ⟨q1, q2⟩)).trans (ck_p q0)
theorem rs_tear_k0 {S : St} {n x y z : Int32} (q1 : isX S.nn n) (q2 : barS S (ixN n) x y z) (q3 : S.tn (ixN n) (barX x y z) = false) : rs_tear S n x y z = ((nI (cntB (setB (S.tn (ixN n)) (barX x y z)) 100) : Int32).toInt64, stT S (ixN n) (setB (S.tn (ixN n)) (barX x y z))) := (ck_n (fun h9 => h9 ⟨q1, q2⟩)).trans ((ck_n (fun h9 => by rw [q3] at h9; cases h9)).trans (rfl))
noncomputable def rs_hole (S : St) (n p q u v : Int32) : RS := ck (¬ isX S.nn n) (noP, S) (ck (¬ (rng p 0 10 ∧ rng q 0 10 ∧ rng u p 10 ∧ rng v q 10)) (noV, S) (((nI (cntB (holT S (ixN n) (ixN p) (ixN q) (ixN u) (ixN v)) 100) - nI (cntB (S.tn (ixN n)) 100) : Int32).toInt64, stT S (ixN n) (holT S (ixN n) (ixN p) (ixN q) (ixN u) (ixN v)))))
theorem rs_hole_k1 {S : St} {n p q u v : Int32} (q0 : ¬ isX S.nn n) : rs_hole S n p q u v = (noP, S) := ck_p q0
theorem rs_hole_k2 {S : St} {n p q u v : Int32} (q1 : isX S.nn n) (q0 : ¬ (rng p 0 10 ∧ rng q 0 10 ∧ rng u p 10 ∧ rng v q 10)) : rs_hole S n p q u v = (noV, S) := (ck_n (fun h9 => h9 q1)).trans (ck_p q0)
theorem rs_hole_k0 {S : St} {n p q u v : Int32} (q1 : isX S.nn n) (q2 : rng p 0 10) (q3 : rng q 0 10) (q4 : rng u p 10) (q5 : rng v q 10) : rs_hole S n p q u v = ((nI (cntB (holT S (ixN n) (ixN p) (ixN q) (ixN u) (ixN v)) 100) - nI (cntB (S.tn (ixN n)) 100) : Int32).toInt64, stT S (ixN n) (holT S (ixN n) (ixN p) (ixN q) (ixN u) (ixN v))) := (ck_n (fun h9 => h9 q1)).trans ((ck_n (fun h9 => h9 ⟨q2, q3, q4, q5⟩)).trans (rfl))
noncomputable def rs_twines (S : St) (n : Int32) : RS := ck (¬ isX S.nn n) (noP, S) (((nI (twA (S.tn (ixN n))) : Int32).toInt64, S))
theorem rs_twines_k1 {S : St} {n : Int32} (q0 : ¬ isX S.nn n) : rs_twines S n = (noP, S) := ck_p q0
theorem rs_twines_k0 {S : St} {n : Int32} (q1 : isX S.nn n) : rs_twines S n = ((nI (twA (S.tn (ixN n))) : Int32).toInt64, S) := (ck_n (fun h9 => h9 q1)).trans (rfl)
noncomputable def rs_twinesAnew (S : St) (n : Int32) : RS := ck (¬ isX S.nn n) (noP, S) (((nI (twA (S.tn (ixN n))) : Int32).toInt64, S))
theorem rs_twinesAnew_k1 {S : St} {n : Int32} (q0 : ¬ isX S.nn n) : rs_twinesAnew S n = (noP, S) := ck_p q0
theorem rs_twinesAnew_k0 {S : St} {n : Int32} (q1 : isX S.nn n) : rs_twinesAnew S n = ((nI (twA (S.tn (ixN n))) : Int32).toInt64, S) := (ck_n (fun h9 => h9 q1)).trans (rfl)
noncomputable def rs_mend (S : St) (n y : Int32) : RS := ck (¬ isX S.nn n) (noP, S) (ck (¬ rng y 0 200) (noV, S) ((ck (y < nI (twA (S.tn (ixN n)))) ((0 : Int32).toInt64, S) ((nI (cntB (S.tn (ixN n)) 100) : Int32).toInt64, stT S (ixN n) noB))))
theorem rs_mend_k1 {S : St} {n y : Int32} (q0 : ¬ isX S.nn n) : rs_mend S n y = (noP, S) := ck_p q0
theorem rs_mend_k2 {S : St} {n y : Int32} (q1 : isX S.nn n) (q0 : ¬ rng y 0 200) : rs_mend S n y = (noV, S) := (ck_n (fun h9 => h9 q1)).trans (ck_p q0)
theorem rs_mend_kn {S : St} {n y : Int32} (q1 : isX S.nn n) (q2 : rng y 0 200) (q3 : y < nI (twA (S.tn (ixN n)))) : rs_mend S n y = ((0 : Int32).toInt64, S) := (ck_n (fun h9 => h9 q1)).trans ((ck_n (fun h9 => h9 q2)).trans (ck_p q3))
theorem rs_mend_k0 {S : St} {n y : Int32} (q1 : isX S.nn n) (q2 : rng y 0 200) (q3 : ¬ y < nI (twA (S.tn (ixN n)))) : rs_mend S n y = ((nI (cntB (S.tn (ixN n)) 100) : Int32).toInt64, stT S (ixN n) noB) := (ck_n (fun h9 => h9 q1)).trans ((ck_n (fun h9 => h9 q2)).trans (ck_n q3))
noncomputable def rs_join (S : St) (x y z : Int32) : RS := ck (¬ (rng x 1 10000 ∧ rng y 1 10000 ∧ rng z 0 (y - 1))) (noV, S) (((nI ((ixN z + 1) * ixN x) / nI (ixN y) - nI (ixN z * ixN x) / nI (ixN y) : Int32).toInt64, S))
theorem rs_join_k2 {S : St} {x y z : Int32} (q0 : ¬ (rng x 1 10000 ∧ rng y 1 10000 ∧ rng z 0 (y - 1))) : rs_join S x y z = (noV, S) := ck_p q0
theorem rs_join_k0 {S : St} {x y z : Int32} (q1 : rng x 1 10000) (q2 : rng y 1 10000) (q3 : rng z 0 (y - 1)) : rs_join S x y z = ((nI ((ixN z + 1) * ixN x) / nI (ixN y) - nI (ixN z * ixN x) / nI (ixN y) : Int32).toInt64, S) := (ck_n (fun h9 => h9 ⟨q1, q2, q3⟩)).trans (rfl)
noncomputable def rs_depth (S : St) (x y z : Int32) : RS := ck (¬ (rng x 1 1000 ∧ rng y 1 1000 ∧ rng z 1 99)) (noV, S) (((x * y * nI (rtF (10000 - ixN z * ixN z) 100 0) / 100 : Int32).toInt64, S))
theorem rs_depth_k2 {S : St} {x y z : Int32} (q0 : ¬ (rng x 1 1000 ∧ rng y 1 1000 ∧ rng z 1 99)) : rs_depth S x y z = (noV, S) := ck_p q0
theorem rs_depth_k0 {S : St} {x y z : Int32} (q1 : rng x 1 1000) (q2 : rng y 1 1000) (q3 : rng z 1 99) : rs_depth S x y z = ((x * y * nI (rtF (10000 - ixN z * ixN z) 100 0) / 100 : Int32).toInt64, S) := (ck_n (fun h9 => h9 ⟨q1, q2, q3⟩)).trans (rfl)
