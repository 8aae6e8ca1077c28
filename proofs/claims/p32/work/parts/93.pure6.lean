-- PURE: both ways to count twines give the labels' number
section TW
variable {T : Nat → Bool} {lab : Nat → Nat}
def eqN (a b : Nat) : Prop := a = b
theorem t1F_0 {i t : Nat} {s : LV} : t1F 0 i s t = (s, t) := rfl
theorem t1_ok {sz : (Nat → Bool) → Nat} (hs : szOK sz) (hC : labC T lab) : ∀ (m i : Nat) (s : LV) (t : Nat) (c : Nat → Nat), i + 2 * m = 122 → i % 2 = 0 → GI T s → (∀ ro, oN T T lab ro = oN T s.1 lab ro + 2 * c ro) → eqN t (sumN c 121) → (∀ v, v < 121 → v % 2 = 0 → v < i → degN s.1 v % 2 = 0) → (∀ v, v < 121 → v % 2 = 0 → s.2 v = true → 0 < oN T T lab (lab v)) → (∀ ro, 0 < c ro → ∃ v, v < 121 ∧ v % 2 = 0 ∧ lab v = ro ∧ s.2 v = true) →
    GI T (t1F m i s t).1 ∧ (∀ v, v < 121 → v % 2 = 0 → (t1F m i s t).1.2 v = true → 0 < oN T T lab (lab v)) ∧ ∃ c2 : Nat → Nat, (∀ ro, oN T T lab ro = 2 * c2 ro) ∧ (t1F m i s t).2 = sumN c2 121 ∧ ∀ ro, 0 < c2 ro → ∃ v, v < 121 ∧ v % 2 = 0 ∧ lab v = ro ∧ (t1F m i s t).1.2 v = true := by
  intro m
  induction m with
  | zero =>
    intro i s t c hi he hG ho ht hev h1 h2
    have hoz : ∀ ro, oN T s.1 lab ro = 0 := fun ro => by
      unfold oN
      rw [sumN_congr (f2 := fun _ => 0) (fun v hv => by
        show (if v % 2 = 0 ∧ lab v = ro then degN s.1 v % 2 else 0) = 0
        split
        · next hc => exact hev v hv hc.1 (by rw [show i = 122 from hi]; exact Nat.lt_succ_of_lt hv)
        · rfl), sumN_0]
    have hz : ∀ ro, oN T T lab ro = 2 * c ro := fun ro => by
      rw [ho ro, hoz ro, Nat.zero_add]
    rw [t1F_0]
    have ht : t = sumN c 121 := ht
    exact ⟨hG, h1, c, hz, ht, h2⟩
  | succ m ih =>
    intro i s t c hi he hG ho ht hev h1 h2
    unfold t1F
    by_cases hc : degN s.1 i % 2 = 1
    · rw [if_pos hc]
      have hi1 : i < 121 := by omega
      obtain ⟨a1, a2, a3, a4, a5, z, z1, z2, z3, z4, z5⟩ := lyS_ok hs hC hi1 he hG
      have hne : z ≠ i := fun e => by
        have := z5 i hi1 he
        rw [if_pos rfl, if_pos e.symm] at this
        rw [e] at z4
        omega
      have hd : ∀ v, v < 121 → v % 2 = 0 → degN s.1 v % 2 = degN (lyS s i).1 v % 2 + ((if v = i then 1 else 0) + (if v = z then 1 else 0)) := fun v hv hev => by
        have h5 := z5 v hv hev
        by_cases e1 : v = i
        · rw [if_pos e1, if_neg (fun e2 => hne (e2.symm.trans e1))] at h5 ⊢
          rw [← e1] at hc
          omega
        · rw [if_neg e1] at h5 ⊢
          by_cases e2 : v = z
          · rw [if_pos e2] at h5 ⊢
            rw [e2] at h5 ⊢
            omega
          · rw [if_neg e2] at h5 ⊢
            omega
      have hsum : ∀ ro, oN T s.1 lab ro = oN T (lyS s i).1 lab ro + (if ro = lab i then 2 else 0) := fun ro => by
        unfold oN
        rw [sumN_congr (f2 := fun v => (if v % 2 = 0 ∧ lab v = ro then degN (lyS s i).1 v % 2 else 0) + ((if v = i then (if ro = lab i then 1 else 0) else 0) + (if v = z then (if ro = lab i then 1 else 0) else 0))) (fun v hv => ?_), sumN_add, sumN_add, sumN_1, sumN_1, if_pos hi1, if_pos z1]
        · congr 1
          split <;> rfl
        · show (if v % 2 = 0 ∧ lab v = ro then degN s.1 v % 2 else 0) = (if v % 2 = 0 ∧ lab v = ro then degN (lyS s i).1 v % 2 else 0) + ((if v = i then (if ro = lab i then 1 else 0) else 0) + (if v = z then (if ro = lab i then 1 else 0) else 0))
          by_cases q : v % 2 = 0 ∧ lab v = ro
          · rw [if_pos q, if_pos q, hd v hv q.1]
            congr 1
            by_cases e1 : v = i
            · have hr : ro = lab i := by rw [← e1]; exact q.2.symm
              rw [if_pos e1, if_pos e1, if_pos hr]
            · by_cases e2 : v = z
              · have hr : ro = lab i := by rw [← z3, ← e2]; exact q.2.symm
                rw [if_neg e1, if_neg e1, if_pos hr]
              · rw [if_neg e1, if_neg e1, if_neg e2, if_neg e2]
          · rw [if_neg q, if_neg q]
            by_cases e1 : v = i
            · have : ¬ ro = lab i := fun e => q ⟨by rw [e1]; exact he, by rw [e1, e]⟩
              rw [if_neg this]
              split <;> split <;> rfl
            · rw [if_neg e1]
              by_cases e2 : v = z
              · have : ¬ ro = lab i := fun e => q ⟨by rw [e2]; exact z2, by rw [e2, e, z3]⟩
                rw [if_pos e2, if_neg this]
              · rw [if_neg e2]
      have hl : lab i < 121 := hC.2.1 i hi1
      obtain ⟨c2, hc2⟩ : ∃ c2, c2 = updN c (lab i) (c (lab i) + 1) := ⟨_, rfl⟩
      have hcv : ∀ ro, c2 ro = c ro + (if ro = lab i then 1 else 0) := fun ro => by
        rw [hc2]
        unfold updN
        split
        · next e => rw [e]
        · rfl
      refine ih (i + 2) (lyS s i) (t + 1) c2 (by omega) (by omega) a1 (fun ro => ?_) ?_ (fun v hv hev2 hlt => ?_) (fun v hv hev2 hr => ?_) (fun ro hro => ?_)
      · rw [ho ro, hsum ro, hcv ro]
        generalize oN T (lyS s i).1 lab ro = A
        split <;> omega
      · have := sumN_upd (f := c) (i := lab i) (x := c (lab i) + 1) hl
        have ht2 : t = sumN c 121 := ht
        show t + 1 = sumN c2 121
        rw [hc2, ht2]
        generalize sumN (updN c (lab i) (c (lab i) + 1)) 121 = A at this ⊢
        generalize sumN c 121 = B at this ⊢
        omega
      · have h5 := hd v hv hev2
        by_cases e1 : v = i
        · rw [e1] at h5 ⊢
          rw [if_pos rfl] at h5
          omega
        · have := hev v hv hev2 (by omega)
          omega
      · rcases a4 v hv hev2 hr with h | h
        · exact h1 v hv hev2 h
        · rw [h, ho (lab i)]
          have h7 := sumN_term (f := fun v => if v % 2 = 0 ∧ lab v = lab i then degN s.1 v % 2 else 0) (k := i) hi1
          have h7 : (if i % 2 = 0 ∧ lab i = lab i then degN s.1 i % 2 else 0) ≤ oN T s.1 lab (lab i) := h7
          rw [if_pos ⟨he, rfl⟩] at h7
          generalize oN T s.1 lab (lab i) = A at h7 ⊢
          omega
      · by_cases e : ro = lab i
        · exact ⟨i, hi1, he, e.symm, a3⟩
        · rw [hcv ro, if_neg e] at hro
          obtain ⟨v, v1, v2, v3, v4⟩ := h2 ro hro
          exact ⟨v, v1, v2, v3, a2.2.1 v v4⟩
    · rw [if_neg hc]
      refine ih (i + 2) s t c (by omega) (by omega) hG ho ht (fun v hv hev2 hlt => ?_) h1 h2
      by_cases e1 : v = i
      · rw [e1]
        omega
      · exact hev v hv hev2 (by omega)
/-- a part with a knot reached is reached, once nothing is left at knots reached -/
theorem part_all (hC : labC T lab) {s : LV} (hG : GI T s) (he : ∀ v, v < 121 → v % 2 = 0 → s.2 v = true → degN s.1 v = 0) {u v : Nat} (hu : u < 121) (hv : v < 121) (hl : lab u = lab v) (hr : u % 2 = 0 ∧ s.2 u = true) : v % 2 = 0 ∧ s.2 v = true := by
  refine hC.2.2 u v hu hv hl (fun x => x % 2 = 0 ∧ s.2 x = true) (fun x w hx hex hw hlf hp => ?_) hr
  obtain ⟨b, hb, hT⟩ := lft_iff.mp hlf
  obtain ⟨g1, g2, g3, g4, w2, hw2, hb2, -⟩ := G1 hx hex hw hb
  refine ⟨g2, hG.2 _ w2 b g1 g2 hw2 hb2 hT ?_⟩
  cases hz : s.1 b
  · rfl
  · have := degN_pos.mpr ⟨w, hw, b, hb, hz⟩
    have := he x hx hex hp.2
    omega
theorem t2_ok {sz : (Nat → Bool) → Nat} (hs : szOK sz) (hC : labC T lab) : ∀ (m i : Nat) (s : LV) (t t1 : Nat) (R : Nat → Bool), i + 2 * m = 122 → i % 2 = 0 → GI T s → (∀ v, v < 121 → v % 2 = 0 → s.2 v = true → degN s.1 v = 0) → (∀ v, v < 121 → v % 2 = 0 → s.2 v = true → R (lab v) = true) → (∀ ro, R ro = true → ∃ v, v < 121 ∧ v % 2 = 0 ∧ lab v = ro ∧ s.2 v = true) → (∀ ro, 0 < oN T T lab ro → R ro = true) → (∀ ro, R ro = true → hN T lab ro) → t = t1 + sumN (fun ro => if R ro = true ∧ oN T T lab ro = 0 then 1 else 0) 121 → (∀ v, v < 121 → v % 2 = 0 → v < i → degN s.1 v = 0) →
    ∃ R2 : Nat → Bool, (∀ ro, R2 ro = true ↔ hN T lab ro) ∧ (t2F m i s t).2 = t1 + sumN (fun ro => if R2 ro = true ∧ oN T T lab ro = 0 then 1 else 0) 121
  | 0, i, s, t, t1, R, hi, he, hG, h0, h1, h2, h3, h4, ht, hd => by
    refine ⟨R, fun ro => ⟨h4 ro, fun ⟨v, v1, v2, v3, v4⟩ => ?_⟩, ht⟩
    obtain ⟨w, hw, b, hb, hT⟩ := degN_pos.mp v4
    rw [← v3]
    refine h1 v v1 v2 (hG.2 v w b v1 v2 hw hb hT ?_)
    cases hz : s.1 b
    · rfl
    · have := degN_pos.mpr ⟨w, hw, b, hb, hz⟩
      have := hd v v1 v2 (by omega)
      omega
  | m + 1, i, s, t, t1, R, hi, he, hG, h0, h1, h2, h3, h4, ht, hd => by
    unfold t2F
    have hi1 : i < 121 := by omega
    by_cases hc : 0 < degN s.1 i
    · rw [if_pos hc]
      have hRi : R (lab i) = false := by
        cases hz : R (lab i)
        · rfl
        · obtain ⟨u, u1, u2, u3, u4⟩ := h2 _ hz
          have := (part_all hC hG h0 u1 hi1 u3 ⟨u2, u4⟩).2
          have := h0 i hi1 he this
          omega
      have hoi : oN T T lab (lab i) = 0 := by
        rcases Nat.eq_zero_or_pos (oN T T lab (lab i)) with e | e
        · exact e
        · rw [h3 _ e] at hRi
          cases hRi
      have hl : lab i < 121 := hC.2.1 i hi1
      obtain ⟨a1, a2, a3, a4, a5, -⟩ := lyS_ok hs hC hi1 he hG
      obtain ⟨b1, b2, b3, b4⟩ := rg_ok hs hC 100 (lyS s i) (hs.2.2 _) a1
      have e9 : rgS (lyS s i) = rgF 100 (lyS s i) := rfl
      rw [← e9] at b1 b2 b3 b4
      have hset : ∀ ro, setB R (lab i) ro = true ↔ R ro = true ∨ ro = lab i := fun v => by
        unfold setB
        by_cases e : v = lab i
        · rw [if_pos e]; exact ⟨fun _ => Or.inr e, fun _ => rfl⟩
        · rw [if_neg e]; exact ⟨Or.inl, fun q => q.resolve_right e⟩
      have hri : (rgS (lyS s i)).2 i = true := b2.2.1 i a3
      refine t2_ok hs hC m (i + 2) (rgS (lyS s i)) (t + 1) t1 (setB R (lab i)) (by omega) (by omega) b1 b4 (fun v hv hev hr => ?_) (fun ro hro => ?_) (fun ro hro => (hset ro).mpr (Or.inl (h3 ro hro))) (fun ro hro => ?_) ?_ (fun v hv hev hlt => ?_)
      · obtain ⟨u, u1, u2, u3, u4⟩ := b3 v hv hev hr
        rw [← u4]
        rcases a4 u u1 u2 u3 with h | h
        · exact (hset _).mpr (Or.inl (h1 u u1 u2 h))
        · exact (hset _).mpr (Or.inr h)
      · rcases (hset ro).mp hro with h | h
        · obtain ⟨v, v1, v2, v3, v4⟩ := h2 ro h
          exact ⟨v, v1, v2, v3, b2.2.1 v (a2.2.1 v v4)⟩
        · exact ⟨i, hi1, he, h.symm, hri⟩
      · rcases (hset ro).mp hro with h | h
        · exact h4 ro h
        · refine ⟨i, hi1, he, h.symm, ?_⟩
          obtain ⟨w, hw, b, hb, hL⟩ := degN_pos.mp hc
          exact degN_pos.mpr ⟨w, hw, b, hb, hG.1 b hL⟩
      · rw [sumN_congr (f2 := fun ro => (if R ro = true ∧ oN T T lab ro = 0 then 1 else 0) + (if ro = lab i then 1 else 0)) (fun ro _ => ?_), sumN_add, sumN_1, if_pos hl, ht]
        · rw [Nat.add_assoc]
        · show (if setB R (lab i) ro = true ∧ oN T T lab ro = 0 then 1 else 0) = (if R ro = true ∧ oN T T lab ro = 0 then 1 else 0) + (if ro = lab i then 1 else 0)
          by_cases e : ro = lab i
          · rw [if_pos ⟨(hset ro).mpr (Or.inr e), by rw [e]; exact hoi⟩, if_neg (fun q => by rw [e, hRi] at q; cases q.1), if_pos e]
          · rw [if_neg e]
            by_cases q : R ro = true ∧ oN T T lab ro = 0
            · rw [if_pos q, if_pos ⟨(hset ro).mpr (Or.inl q.1), q.2⟩]
            · rw [if_neg q, if_neg (fun q2 => q ⟨((hset ro).mp q2.1).resolve_right e, q2.2⟩)]
      · by_cases e : v = i
        · rw [e]
          exact b4 i hi1 he hri
        · exact deg_mono (fun b h => a2.1 b (b2.1 b h)) (hd v hv hev (by omega))
    · rw [if_neg hc]
      refine t2_ok hs hC m (i + 2) s t t1 R (by omega) (by omega) hG h0 h1 h2 h3 h4 ht (fun v hv hev hlt => ?_)
      by_cases e : v = i
      · rw [e]; omega
      · exact hd v hv hev (by omega)
/-- laying twine after twine: how many odd knots each part has, and the number -/
theorem twA_ok (hC : labC T lab) : (∀ ro, oN T T lab ro % 2 = 0) ∧ ∀ pt : Nat → Nat, (∀ ro, hN T lab ro → pt ro = max 1 (oN T T lab ro / 2)) → (∀ ro, ¬ hN T lab ro → pt ro = 0) → twA T = sumN pt 121 := by
  obtain ⟨sz, hs⟩ : ∃ sz, szOK sz := ⟨_, sz_cnt⟩
  have hG0 : GI T (T, noB) := ⟨fun _ h => h, fun v w b _ _ _ _ hT h => by
    have h : T b = false := h
    rw [hT] at h
    cases h⟩
  obtain ⟨a1, a2, c, a3, a4, a5⟩ := t1_ok hs hC 61 0 (T, noB) 0 (fun _ => 0) rfl rfl hG0 (fun ro => by show _ = _ + 2 * 0; rw [Nat.mul_zero, Nat.add_zero]) (by show 0 = sumN (fun _ => 0) 121; rw [sumN_0]) (fun v _ _ h => absurd h (Nat.not_lt_zero v)) (fun v _ _ h => by cases h) (fun ro h => absurd h (Nat.lt_irrefl 0))
  refine ⟨fun ro => by rw [a3 ro]; exact Nat.mul_mod_right 2 _, fun pt hp1 hp0 => ?_⟩
  have e0 : t1S T = t1F 61 0 (T, noB) 0 := rfl
  rw [← e0] at a1 a2 a4 a5
  obtain ⟨b1, b2, b3, b4⟩ := rg_ok hs hC 100 (t1S T).1 (hs.2.2 _) a1
  have e9 : rgS (t1S T).1 = rgF 100 (t1S T).1 := rfl
  rw [← e9] at b1 b2 b3 b4
  obtain ⟨R2, r1, r2⟩ := t2_ok hs hC 61 0 (rgS (t1S T).1) (t1S T).2 (t1S T).2 (fun ro => decide (0 < oN T T lab ro)) rfl rfl b1 b4 (fun v hv hev hr => by
      obtain ⟨u, u1, u2, u3, u4⟩ := b3 v hv hev hr
      rw [← u4]
      exact decide_eq_true (a2 u u1 u2 u3)) (fun ro hro => by
      have hro := of_decide_eq_true hro
      obtain ⟨v, v1, v2, v3, v4⟩ := a5 ro (by
        have := a3 ro
        generalize oN T T lab ro = A at this hro
        omega)
      exact ⟨v, v1, v2, v3, b2.2.1 v v4⟩) (fun ro hro => decide_eq_true hro) (fun ro hro => oN_hN (of_decide_eq_true hro)) (by
      rw [sumN_congr (f2 := fun _ => 0) (fun ro _ => by
        show (if decide (0 < oN T T lab ro) = true ∧ oN T T lab ro = 0 then 1 else 0) = 0
        rw [if_neg (fun q => by
          have q1 := of_decide_eq_true q.1
          rw [q.2] at q1
          exact Nat.lt_irrefl 0 q1)]), sumN_0]
      rfl) (fun v _ _ h => absurd h (Nat.not_lt_zero v))
  show (t2F 61 0 (rgS (t1S T).1) (t1S T).2).2 = sumN pt 121
  rw [r2, a4, ← sumN_add]
  refine sumN_congr (fun ro _ => ?_)
  show c ro + (if R2 ro = true ∧ oN T T lab ro = 0 then 1 else 0) = pt ro
  have h3 := a3 ro
  by_cases h : hN T lab ro
  · rw [hp1 ro h]
    by_cases q : oN T T lab ro = 0
    · rw [if_pos ⟨(r1 ro).mpr h, q⟩]
      generalize oN T T lab ro = A at h3 q ⊢
      omega
    · rw [if_neg (fun z => q z.2)]
      generalize oN T T lab ro = A at h3 q ⊢
      omega
  · rw [hp0 ro h, if_neg (fun z => h ((r1 ro).mp z.1))]
    rcases Nat.eq_zero_or_pos (oN T T lab ro) with q | q
    · generalize oN T T lab ro = A at h3 q
      omega
    · exact absurd (oN_hN q) h
/-- the search through the parts -/
theorem fw_ok (hC : labC T lab) {pt : Nat → Nat} (hp1 : ∀ ro, hN T lab ro → pt ro = max 1 (oN T T lab ro / 2)) (hp0 : ∀ ro, ¬ hN T lab ro → pt ro = 0) : ∀ (m i : Nat) (V : Nat → Bool) (Q : Nat → Nat) (t : Nat) (R : Nat → Bool), i + 2 * m = 122 → i % 2 = 0 → (∀ v, v < 121 → v % 2 = 0 → (V v = true ↔ R (lab v) = true ∧ 0 < degN T v)) → t = sumN (fun ro => if R ro = true then pt ro else 0) 121 → (∀ v, v < 121 → v % 2 = 0 → v < i → 0 < degN T v → R (lab v) = true) → fwF T m i V Q t = sumN pt 121
  | 0, i, V, Q, t, R, hi, he, h1, ht, h3 => by
    show t = _
    rw [ht]
    refine sumN_congr (fun ro _ => ?_)
    show (if R ro = true then pt ro else 0) = pt ro
    by_cases q : R ro = true
    · rw [if_pos q]
    · rw [if_neg q]
      refine (hp0 ro (fun ⟨v, v1, v2, v3, v4⟩ => q ?_)).symm
      rw [← v3]
      exact h3 v v1 v2 (by omega) v4
  | m + 1, i, V, Q, t, R, hi, he, h1, ht, h3 => by
    unfold fwF
    have hi1 : i < 121 := by omega
    by_cases hc : V i = false ∧ 0 < degN T i
    · rw [if_pos hc]
      have hRi : R (lab i) = false := by
        cases hz : R (lab i)
        · rfl
        · have := (h1 i hi1 he).mpr ⟨hz, hc.2⟩
          rw [hc.1] at this
          cases this
      have hl : lab i < 121 := hC.2.1 i hi1
      obtain ⟨b1, b2, b3⟩ := bf_part (Q := Q) hC hi1 he hc.2 (fun v hv hev hz e => by
        have := ((h1 v hv hev).mp hz).1
        rw [e, hRi] at this
        cases this) hc.1
      have hset : ∀ ro, setB R (lab i) ro = true ↔ R ro = true ∨ ro = lab i := fun v => by
        unfold setB
        by_cases e : v = lab i
        · rw [if_pos e]; exact ⟨fun _ => Or.inr e, fun _ => rfl⟩
        · rw [if_neg e]; exact ⟨Or.inl, fun q => q.resolve_right e⟩
      refine fw_ok hC hp1 hp0 m (i + 2) _ _ _ (setB R (lab i)) (by omega) (by omega) (fun v hv hev => ?_) ?_ (fun v hv hev hlt hd => ?_)
      · rw [b1 v hv hev, hset, h1 v hv hev]
        refine ⟨fun q => ?_, fun q => ?_⟩
        · rcases q with q | q
          · exact ⟨Or.inl q.1, q.2⟩
          · exact ⟨Or.inr q, b3 v hv hev q⟩
        · rcases q.1 with z | z
          · exact Or.inl ⟨z, q.2⟩
          · exact Or.inr z
      · rw [b2, ← hp1 (lab i) ⟨i, hi1, he, rfl, hc.2⟩, ht, sumN_congr (f := fun ro => if setB R (lab i) ro = true then pt ro else 0) (f2 := fun ro => (if R ro = true then pt ro else 0) + (if ro = lab i then pt (lab i) else 0)) (fun ro _ => ?_), sumN_add, sumN_1, if_pos hl]
        show (if setB R (lab i) ro = true then pt ro else 0) = (if R ro = true then pt ro else 0) + (if ro = lab i then pt (lab i) else 0)
        by_cases e : ro = lab i
        · rw [if_pos ((hset ro).mpr (Or.inr e)), if_neg (fun q => by rw [e, hRi] at q; cases q), if_pos e, e]
          omega
        · rw [if_neg e]
          by_cases q : R ro = true
          · rw [if_pos q, if_pos ((hset ro).mpr (Or.inl q))]
            rfl
          · rw [if_neg q, if_neg (fun q2 => q (((hset ro).mp q2).resolve_right e))]
      · by_cases e : v = i
        · exact (hset _).mpr (Or.inr (by rw [e]))
        · exact (hset _).mpr (Or.inl (h3 v hv hev (by omega) hd))
    · rw [if_neg hc]
      refine fw_ok hC hp1 hp0 m (i + 2) V Q t R (by omega) (by omega) h1 ht (fun v hv hev hlt hd => ?_)
      by_cases e : v = i
      · rw [e] at hd ⊢
        cases hz : V i
        · exact absurd ⟨hz, hd⟩ hc
        · exact ((h1 i hi1 he).mp hz).1
      · exact h3 v hv hev (by omega) hd
end TW
/-- the three numbers are one -/
theorem twines_eq {S : St} {i : Nat} {lab : Nat → Nat} (hi : i < S.nn) (h : labO (fun k => tnM S (220 * i + k)) lab) (Q : Nat → Nat) : fwM (fun k => tnM S (220 * i + k)) lab 121 = fwS (S.tn i) Q ∧ fwM (fun k => tnM S (220 * i + k)) lab 121 = twA (S.tn i) := by
  have hC := labC_of hi h
  obtain ⟨h2, h3⟩ := twA_ok hC
  have hp1 : ∀ ro, hN (S.tn i) lab ro → ptM (fun k => tnM S (220 * i + k)) lab ro = max 1 (oN (S.tn i) (S.tn i) lab ro / 2) := fun ro q => (ptM_eq hi).1 q (h2 ro)
  have hp0 : ∀ ro, ¬ hN (S.tn i) lab ro → ptM (fun k => tnM S (220 * i + k)) lab ro = 0 := fun ro q => (ptM_eq hi).2 q
  refine ⟨?_, ?_⟩
  · rw [fwM_sum]
    unfold fwS
    refine (fw_ok hC hp1 hp0 61 0 noB Q 0 noB rfl rfl (fun v _ _ => ⟨fun q => (by cases q), fun q => (by cases q.1)⟩) ?_ (fun v _ _ q => absurd q (Nat.not_lt_zero v))).symm
    rw [sumN_congr (f2 := fun _ => 0) (fun ro _ => by
      show (if noB ro = true then _ else 0) = 0
      rw [if_neg (fun q => by cases q)]), sumN_0]
  · rw [fwM_sum]
    exact (h3 _ hp1 hp0).symm
