-- PURE: one bar more or less changes the twines by one at most
theorem barUd : ∀ v, v < 121 → v % 2 = 0 → ∀ w, w < 4 → ∀ w2, w2 < 4 → (barN v w).all (fun b => !(decide (barN v w2 = some b)) || decide (w = w2)) = true := by decide +kernel
theorem barU {v w w2 b : Nat} (hv : v < 121) (he : v % 2 = 0) (hw : w < 4) (hw2 : w2 < 4) (hb : barN v w = some b) (hb2 : barN v w2 = some b) : w = w2 := by
  have h := barUd v hv he w hw w2 hw2
  rw [hb] at h
  simpa [hb2] using h
theorem barExd : ∀ b, b < 100 → (List.range 61).any (fun j => ways.any (fun w => decide (w < 4) && decide (barN (2 * j) w = some b))) = true := by decide +kernel
theorem barEx {b : Nat} (hb : b < 100) : ∃ v w, v < 121 ∧ v % 2 = 0 ∧ w < 4 ∧ barN v w = some b := by
  obtain ⟨j, hj, h⟩ := List.any_eq_true.mp (barExd b hb)
  obtain ⟨w, hw, h2⟩ := List.any_eq_true.mp h
  simp only [Bool.and_eq_true, decide_eq_true_eq] at h2
  have := List.mem_range.mp hj
  exact ⟨2 * j, w, by omega, by omega, h2.1, h2.2⟩
theorem setB_s {T : Nat → Bool} {b : Nat} : setB T b b = true := by unfold setB; rw [if_pos rfl]
theorem setB_n {T : Nat → Bool} {b j : Nat} (h : j ≠ b) : setB T b j = T j := by unfold setB; rw [if_neg h]
theorem setB_t {T : Nat → Bool} {b j : Nat} (h : T j = true) : setB T b j = true := by
  unfold setB
  split
  · rfl
  · exact h
theorem clr_set {T : Nat → Bool} {b : Nat} (h : T b = false) : clrB (setB T b) b = T := funext fun j => by
  unfold clrB setB
  by_cases e : j = b
  · rw [if_pos e, e, h]
  · rw [if_neg e, if_neg e]
theorem set_clr {T : Nat → Bool} {b : Nat} (h : T b = true) : setB (clrB T b) b = T := funext fun j => by
  show (if j = b then true else (if j = b then false else T j)) = T j
  by_cases e : j = b
  · rw [if_pos e, e, h]
  · rw [if_neg e, if_neg e]
/-- the labels when the parts of both ends become one -/
def mrg (lab : Nat → Nat) (x y : Nat) : Nat → Nat := fun v => if lab v = lab y then lab x else lab v
theorem labC_mrg {T : Nat → Bool} {lab : Nat → Nat} {x w b : Nat} (hC : labC T lab) (hx : x < 121) (he : x % 2 = 0) (hw : w < 4) (hb : barN x w = some b) : labC (setB T b) (mrg lab x (knN x w)) := by
  obtain ⟨g1, g2, g3, g4, w2, hw2, hb2, hkn2⟩ := G1 hx he hw hb
  obtain ⟨c1, c2, c3⟩ := hC
  have hxx : mrg lab x (knN x w) x = lab x := by
    unfold mrg
    split <;> rfl
  have hyy : mrg lab x (knN x w) (knN x w) = lab x := by
    unfold mrg
    rw [if_pos rfl]
  refine ⟨fun v w3 hv hev hw3 hl => ?_, fun v hv => ?_, fun u v hu hv e P hP hp => ?_⟩
  · obtain ⟨b3, hb3, hT⟩ := lft_iff.mp hl
    by_cases e : b3 = b
    · subst e
      have h := G2 hx he hw hb hv hev
      have hpos : 0 < (ways.filter (fun w2 => decide (barN v w2 = some b3))).length := by
        refine List.length_pos_of_mem (a := w3) (List.mem_filter.mpr ⟨?_, by simpa using hb3⟩)
        have : w3 = 0 ∨ w3 = 1 ∨ w3 = 2 ∨ w3 = 3 := by omega
        rcases this with rfl | rfl | rfl | rfl <;> simp [ways]
      by_cases e1 : v = x
      · subst e1
        rw [← barU hx he hw hw3 hb hb3, hxx, hyy]
      · by_cases e2 : v = knN x w
        · subst e2
          rw [← barU g1 g2 hw2 hw3 hb2 hb3, hkn2, hxx, hyy]
        · rw [if_neg e1, if_neg e2] at h
          omega
    · rw [setB_n e] at hT
      have := c1 v w3 hv hev hw3 (lft_iff.mpr ⟨b3, hb3, hT⟩)
      unfold mrg
      rw [this]
  · unfold mrg
    split
    · exact c2 x hx
    · exact c2 v hv
  · have hPT : cls T P := fun v w3 hv hev hw3 hl hp => by
      obtain ⟨b3, hb3, hT⟩ := lft_iff.mp hl
      exact hP v w3 hv hev hw3 (lft_iff.mpr ⟨b3, hb3, setB_t hT⟩) hp
    have hxy : P x → P (knN x w) := fun h => hP x w hx he hw (lft_iff.mpr ⟨b, hb, setB_s⟩) h
    have hyx : P (knN x w) → P x := fun h => by
      have := hP (knN x w) w2 g1 g2 hw2 (lft_iff.mpr ⟨b, hb2, setB_s⟩) h
      rw [hkn2] at this
      exact this
    unfold mrg at e
    by_cases e1 : lab u = lab (knN x w)
    · rw [if_pos e1] at e
      by_cases e2 : lab v = lab (knN x w)
      · exact c3 u v hu hv (e1.trans e2.symm) P hPT hp
      · rw [if_neg e2] at e
        exact c3 x v hx hv e P hPT (hyx (c3 u _ hu g1 e1 P hPT hp))
    · rw [if_neg e1] at e
      by_cases e2 : lab v = lab (knN x w)
      · rw [if_pos e2] at e
        exact c3 _ v g1 hv e2.symm P hPT (hxy (c3 u x hu hx e P hPT hp))
      · rw [if_neg e2] at e
        exact c3 u v hu hv e P hPT hp
theorem labC_ex (T : Nat → Bool) : ∃ lab, labC T lab := by
  obtain ⟨lab, h⟩ := labO_ex (fun k => tnM ((fun _ _ => 1), (fun _ _ => 0), (fun _ => T), fun _ _ => none) (220 * 0 + k))
  exact ⟨lab, labC_of (S := ((fun _ _ => 1), (fun _ _ => 0), (fun _ => T), fun _ _ => none)) (i := 0) (by show 0 < 1; decide) h⟩
noncomputable def ptC (T : Nat → Bool) (lab : Nat → Nat) (ro : Nat) : Nat := ck (hN T lab ro) (max 1 (oN T T lab ro / 2)) 0
theorem ptC_h {T : Nat → Bool} {lab : Nat → Nat} {ro : Nat} (h : hN T lab ro) : ptC T lab ro = max 1 (oN T T lab ro / 2) := ck_p h
theorem ptC_n {T : Nat → Bool} {lab : Nat → Nat} {ro : Nat} (h : ¬ hN T lab ro) : ptC T lab ro = 0 := ck_n h
theorem ptC_c {T : Nat → Bool} {lab : Nat → Nat} {ro : Nat} : (ptC T lab ro = max 1 (oN T T lab ro / 2)) ∨ (ptC T lab ro = 0 ∧ oN T T lab ro = 0) := by
  by_cases h : hN T lab ro
  · exact Or.inl (ptC_h h)
  · refine Or.inr ⟨ptC_n h, ?_⟩
    rcases Nat.eq_zero_or_pos (oN T T lab ro) with e | e
    · exact e
    · exact absurd (oN_hN e) h
theorem twA_pt {T : Nat → Bool} {lab : Nat → Nat} (hC : labC T lab) : twA T = sumN (ptC T lab) 121 := (twA_ok hC).2 (ptC T lab) (fun ro h => ptC_h h) (fun ro h => ptC_n h)
theorem sumN_two {f f2 : Nat → Nat} {x y : Nat} (hxy : x ≠ y) : ∀ {n : Nat}, x < n → y < n → (∀ v, v < n → v ≠ x → v ≠ y → f v = f2 v) → sumN f n + f2 x + f2 y = sumN f2 n + f x + f y := by
  intro n hx hy h
  have h1 := sumN_upd (f := f) (i := x) (x := f2 x) hx
  have h2 := sumN_upd (f := updN f x (f2 x)) (i := y) (x := f2 y) hy
  have e2 : updN f x (f2 x) y = f y := by unfold updN; rw [if_neg (Ne.symm hxy)]
  have e3 : sumN (updN (updN f x (f2 x)) y (f2 y)) n = sumN f2 n := sumN_congr (fun v hv => by
    unfold updN
    by_cases a : v = y
    · rw [if_pos a, a]
    · rw [if_neg a]
      by_cases c : v = x
      · rw [if_pos c, c]
      · rw [if_neg c]
        exact h v hv c a)
  rw [e2] at h2
  rw [e3] at h2
  omega
theorem sumN_one {f f2 : Nat → Nat} {x n : Nat} (hx : x < n) (h : ∀ v, v < n → v ≠ x → f v = f2 v) : sumN f n + f2 x = sumN f2 n + f x := by
  have h1 := sumN_upd (f := f) (i := x) (x := f2 x) hx
  have e3 : sumN (updN f x (f2 x)) n = sumN f2 n := sumN_congr (fun v hv => by
    unfold updN
    by_cases c : v = x
    · rw [if_pos c, c]
    · rw [if_neg c]
      exact h v hv c)
  rw [e3] at h1
  omega
theorem ar_same {o1 o2 p1 p2 dx dy : Nat} (h : o2 + dx % 2 + dy % 2 = o1 + (dx + 1) % 2 + (dy + 1) % 2) (h1 : o1 % 2 = 0) (h2 : o2 % 2 = 0) (c1 : p1 = max 1 (o1 / 2) ∨ (p1 = 0 ∧ o1 = 0)) (c2 : p2 = max 1 (o2 / 2)) : p2 ≤ p1 + 1 ∧ p1 ≤ p2 + 1 := by
  rcases c1 with c1 | ⟨c1, c3⟩ <;> omega
theorem ar_two {oa ob o2 pa pb p2 dx dy : Nat} (h : o2 + dx % 2 + dy % 2 = (oa + ob) + (dx + 1) % 2 + (dy + 1) % 2) (ha : oa % 2 = 0) (hb : ob % 2 = 0) (h2 : o2 % 2 = 0) (hx : dx % 2 ≤ oa) (hy : dy % 2 ≤ ob) (ca : pa = max 1 (oa / 2) ∨ (pa = 0 ∧ oa = 0)) (cb : pb = max 1 (ob / 2) ∨ (pb = 0 ∧ ob = 0)) (c2 : p2 = max 1 (o2 / 2)) : p2 ≤ pa + pb + 1 ∧ pa + pb ≤ p2 + 1 := by
  rcases ca with ca | ⟨ca, c3⟩ <;> rcases cb with cb | ⟨cb, c4⟩ <;> omega
theorem tw_step {T : Nat → Bool} {x w b : Nat} (hx : x < 121) (he : x % 2 = 0) (hw : w < 4) (hb : barN x w = some b) (hT : T b = false) : twA (setB T b) ≤ twA T + 1 ∧ twA T ≤ twA (setB T b) + 1 := by
  obtain ⟨g1, g2, g3, g4, w2, hw2, hb2, hkn2⟩ := G1 hx he hw hb
  obtain ⟨lab, hC⟩ := labC_ex T
  obtain ⟨y, hy⟩ : ∃ y, y = knN x w := ⟨_, rfl⟩
  have hC2 := labC_mrg hC hx he hw hb
  have hdeg : ∀ v, v < 121 → v % 2 = 0 → degN (setB T b) v = degN T v + ((if v = x then 1 else 0) + (if v = y then 1 else 0)) := fun v hv hev => by
    have := deg_clr (L := setB T b) hx he hw hb setB_s hv hev
    rw [clr_set hT, ← hy] at this
    exact this
  rw [← hy] at hC2 g1 g2 g4
  clear hy hkn2 hb2 hw2
  rw [twA_pt hC, twA_pt hC2]
  obtain ⟨ev1, -⟩ := twA_ok hC
  obtain ⟨ev2, -⟩ := twA_ok hC2
  have c2 := hC.2.1
  have hdx : degN (setB T b) x = degN T x + 1 := by rw [hdeg x hx he, if_pos rfl, if_neg (Ne.symm g4)]
  have hdy : degN (setB T b) y = degN T y + 1 := by rw [hdeg y g1 g2, if_neg g4, if_pos rfl]
  have hdo : ∀ v, v < 121 → v % 2 = 0 → v ≠ x → v ≠ y → degN (setB T b) v = degN T v := fun v hv hev h1 h2 => by rw [hdeg v hv hev, if_neg h1, if_neg h2, Nat.add_zero]
  have hmx : mrg lab x y x = lab x := by
    unfold mrg
    split <;> rfl
  have hmy : mrg lab x y y = lab x := by
    unfold mrg
    rw [if_pos rfl]
  have hoth : ∀ ro, ro ≠ lab x → ro ≠ lab y → ptC (setB T b) (mrg lab x y) ro = ptC T lab ro := fun ro h1 h2 => by
    have hl : ∀ v, (mrg lab x y v = ro ↔ lab v = ro) := fun v => by
      unfold mrg
      by_cases e : lab v = lab y
      · rw [if_pos e]
        exact ⟨fun q => absurd q.symm h1, fun q => absurd (q.symm.trans e) h2⟩
      · rw [if_neg e]
    have hne : ∀ v, lab v = ro → v ≠ x ∧ v ≠ y := fun v q => ⟨fun e => by rw [e] at q; exact h1 q.symm, fun e => by rw [e] at q; exact h2 q.symm⟩
    have ho : oN (setB T b) (setB T b) (mrg lab x y) ro = oN T T lab ro := sumN_congr (fun v hv => by
      by_cases q : v % 2 = 0 ∧ lab v = ro
      · rw [if_pos q, if_pos ⟨q.1, (hl v).mpr q.2⟩, hdo v hv q.1 (hne v q.2).1 (hne v q.2).2]
      · rw [if_neg q, if_neg (fun q2 => q ⟨q2.1, (hl v).mp q2.2⟩)])
    have hh : hN (setB T b) (mrg lab x y) ro ↔ hN T lab ro :=
      ⟨fun ⟨v, k1, k2, k3, k4⟩ => ⟨v, k1, k2, (hl v).mp k3, by
        have k5 := (hl v).mp k3
        rw [hdo v k1 k2 (hne v k5).1 (hne v k5).2] at k4
        exact k4⟩, fun ⟨v, k1, k2, k3, k4⟩ => ⟨v, k1, k2, (hl v).mpr k3, by
        rw [hdo v k1 k2 (hne v k3).1 (hne v k3).2]
        exact k4⟩⟩
    by_cases q : hN T lab ro
    · rw [ptC_h q, ptC_h (hh.mpr q), ho]
    · rw [ptC_n q, ptC_n (fun q2 => q (hh.mp q2))]
  have h2h : hN (setB T b) (mrg lab x y) (lab x) := ⟨x, hx, he, hmx, by rw [hdx]; omega⟩
  have hp2 := ptC_h h2h
  by_cases hab : lab x = lab y
  · have hl : ∀ v, (mrg lab x y v = lab x ↔ lab v = lab x) := fun v => by
      unfold mrg
      by_cases e : lab v = lab y
      · rw [if_pos e]
        exact ⟨fun _ => e.trans hab.symm, fun _ => rfl⟩
      · rw [if_neg e]
    have hs := sumN_one (f := ptC (setB T b) (mrg lab x y)) (f2 := ptC T lab) (c2 x hx) (fun ro _ h1 => hoth ro h1 (by rw [← hab]; exact h1))
    have ho := sumN_two (f := fun v => if v % 2 = 0 ∧ mrg lab x y v = lab x then degN (setB T b) v % 2 else 0) (f2 := fun v => if v % 2 = 0 ∧ lab v = lab x then degN T v % 2 else 0) (Ne.symm g4) hx g1 (fun v hv k1 k2 => by
      show (if v % 2 = 0 ∧ mrg lab x y v = lab x then degN (setB T b) v % 2 else 0) = (if v % 2 = 0 ∧ lab v = lab x then degN T v % 2 else 0)
      by_cases q : v % 2 = 0 ∧ lab v = lab x
      · rw [if_pos q, if_pos ⟨q.1, (hl v).mpr q.2⟩, hdo v hv q.1 k1 k2]
      · rw [if_neg q, if_neg (fun q2 => q ⟨q2.1, (hl v).mp q2.2⟩)])
    have ho : oN (setB T b) (setB T b) (mrg lab x y) (lab x) + (if x % 2 = 0 ∧ lab x = lab x then degN T x % 2 else 0) + (if y % 2 = 0 ∧ lab y = lab x then degN T y % 2 else 0) = oN T T lab (lab x) + (if x % 2 = 0 ∧ mrg lab x y x = lab x then degN (setB T b) x % 2 else 0) + (if y % 2 = 0 ∧ mrg lab x y y = lab x then degN (setB T b) y % 2 else 0) := ho
    rw [if_pos ⟨he, rfl⟩, if_pos ⟨g2, hab.symm⟩, if_pos ⟨he, hmx⟩, if_pos ⟨g2, hmy⟩, hdx, hdy] at ho
    have := ar_same ho (ev1 _) (ev2 _) ptC_c hp2
    omega
  · have hs := sumN_two (f := ptC (setB T b) (mrg lab x y)) (f2 := ptC T lab) hab (c2 x hx) (c2 y g1) (fun ro _ h1 h2 => hoth ro h1 h2)
    have hp0 : ptC (setB T b) (mrg lab x y) (lab y) = 0 := ptC_n (fun ⟨v, k1, k2, k3, k4⟩ => by
      unfold mrg at k3
      by_cases e : lab v = lab y
      · rw [if_pos e] at k3
        exact hab k3
      · rw [if_neg e] at k3
        exact e k3)
    have ho := sumN_two (f := fun v => if v % 2 = 0 ∧ mrg lab x y v = lab x then degN (setB T b) v % 2 else 0) (f2 := fun v => (if v % 2 = 0 ∧ lab v = lab x then degN T v % 2 else 0) + (if v % 2 = 0 ∧ lab v = lab y then degN T v % 2 else 0)) (Ne.symm g4) hx g1 (fun v hv k1 k2 => by
      show (if v % 2 = 0 ∧ mrg lab x y v = lab x then degN (setB T b) v % 2 else 0) = (if v % 2 = 0 ∧ lab v = lab x then degN T v % 2 else 0) + (if v % 2 = 0 ∧ lab v = lab y then degN T v % 2 else 0)
      by_cases q0 : v % 2 = 0
      · rw [hdo v hv q0 k1 k2]
        unfold mrg
        by_cases e : lab v = lab y
        · rw [if_pos e, if_pos ⟨q0, rfl⟩, if_neg (fun q => hab (q.2.symm.trans e)), if_pos ⟨q0, e⟩, Nat.zero_add]
        · rw [if_neg e, if_neg (fun (q : v % 2 = 0 ∧ lab v = lab y) => e q.2), Nat.add_zero]
      · rw [if_neg (fun q => q0 q.1), if_neg (fun q => q0 q.1), if_neg (fun q => q0 q.1)])
    rw [sumN_add] at ho
    have ho : oN (setB T b) (setB T b) (mrg lab x y) (lab x) + ((if x % 2 = 0 ∧ lab x = lab x then degN T x % 2 else 0) + (if x % 2 = 0 ∧ lab x = lab y then degN T x % 2 else 0)) + ((if y % 2 = 0 ∧ lab y = lab x then degN T y % 2 else 0) + (if y % 2 = 0 ∧ lab y = lab y then degN T y % 2 else 0)) = (oN T T lab (lab x) + oN T T lab (lab y)) + (if x % 2 = 0 ∧ mrg lab x y x = lab x then degN (setB T b) x % 2 else 0) + (if y % 2 = 0 ∧ mrg lab x y y = lab x then degN (setB T b) y % 2 else 0) := ho
    rw [if_pos ⟨he, rfl⟩, if_neg (fun q => hab q.2), if_neg (fun q => hab q.2.symm), if_pos ⟨g2, rfl⟩, if_pos ⟨he, hmx⟩, if_pos ⟨g2, hmy⟩, hdx, hdy, Nat.add_zero, Nat.zero_add] at ho
    have hxo : degN T x % 2 ≤ oN T T lab (lab x) := by
      have := sumN_term (f := fun v => if v % 2 = 0 ∧ lab v = lab x then degN T v % 2 else 0) hx
      have this : (if x % 2 = 0 ∧ lab x = lab x then degN T x % 2 else 0) ≤ oN T T lab (lab x) := this
      rw [if_pos ⟨he, rfl⟩] at this
      exact this
    have hyo : degN T y % 2 ≤ oN T T lab (lab y) := by
      have := sumN_term (f := fun v => if v % 2 = 0 ∧ lab v = lab y then degN T v % 2 else 0) g1
      have this : (if y % 2 = 0 ∧ lab y = lab y then degN T y % 2 else 0) ≤ oN T T lab (lab y) := this
      rw [if_pos ⟨g2, rfl⟩] at this
      exact this
    have := ar_two ho (ev1 _) (ev1 _) (ev2 _) hxo hyo ptC_c ptC_c hp2
    omega
theorem tw_set {T : Nat → Bool} {b : Nat} (hb : b < 100) (hT : T b = false) : twA (setB T b) ≤ twA T + 1 ∧ twA T ≤ twA (setB T b) + 1 := by
  obtain ⟨v, w, h1, h2, h3, h4⟩ := barEx hb
  exact tw_step h1 h2 h3 h4 hT
theorem tw_0 {T : Nat → Bool} (h : ∀ b, b < 100 → T b = false) : twA T = 0 := by
  obtain ⟨lab, hC⟩ := labC_ex T
  rw [(twA_ok hC).2 (fun _ => 0) (fun ro ⟨v, k1, k2, k3, k4⟩ => by
    obtain ⟨w, hw, b, hb, hT⟩ := degN_pos.mp k4
    obtain ⟨-, -, g3, -⟩ := G1 k1 k2 hw hb
    rw [h b g3] at hT
    cases hT) (fun _ _ => rfl)]
  exact sumN_0 121
theorem tw_pos {T : Nat → Bool} {b : Nat} (hb : b < 100) (hT : T b = true) : 1 ≤ twA T := by
  obtain ⟨v, w, h1, h2, h3, h4⟩ := barEx hb
  obtain ⟨lab, hC⟩ := labC_ex T
  rw [twA_pt hC]
  have hh : hN T lab (lab v) := ⟨v, h1, h2, rfl, degN_pos.mpr ⟨w, h3, b, h4, hT⟩⟩
  have := sumN_term (f := ptC T lab) (hC.2.1 v h1)
  rw [ptC_h hh] at this
  omega
theorem cnt_ex {T : Nat → Bool} : ∀ {n : Nat}, 0 < cntB T n → ∃ b, b < n ∧ T b = true
  | 0, h => absurd h (Nat.lt_irrefl 0)
  | n + 1, h => by
    unfold cntB at h
    by_cases e : T n = true
    · exact ⟨n, by omega, e⟩
    · rw [if_neg e] at h
      obtain ⟨b, h1, h2⟩ := cnt_ex (T := T) (n := n) h
      exact ⟨b, by omega, h2⟩
theorem cnt_0 {T : Nat → Bool} {n : Nat} (h : cntB T n = 0) : ∀ b, b < n → T b = false := fun b hb => by
  cases hT : T b with
  | false => rfl
  | true => have := cntB_pos (L := T) hT hb; omega
theorem tw_leN {N : Nat} (hN : N = 100) : ∀ (n : Nat) (T : Nat → Bool), cntB T N = n → twA T ≤ n
  | 0, T, h => Nat.le_of_eq (tw_0 (fun b hb => cnt_0 h b (by omega)))
  | n + 1, T, h => by
    obtain ⟨b, h1, h2⟩ := cnt_ex (T := T) (n := N) (by omega)
    have h3 := cntB_clr h1 h2
    have h4 := tw_leN hN n (clrB T b) (by omega)
    have h5 := tw_set (T := clrB T b) (b := b) (by omega) (by unfold clrB; rw [if_pos rfl])
    rw [set_clr h2] at h5
    omega
theorem tw_le (T : Nat → Bool) : twA T ≤ cntB T 100 := tw_leN rfl _ T rfl
theorem cnt_le {T : Nat → Bool} : ∀ n, cntB T n ≤ n
  | 0 => Nat.le_refl _
  | n + 1 => by
    unfold cntB
    have := cnt_le (T := T) n
    split <;> omega
theorem cnt_mono {T T2 : Nat → Bool} (h : ∀ j, T j = true → T2 j = true) : ∀ n, cntB T n ≤ cntB T2 n
  | 0 => Nat.le_refl _
  | n + 1 => by
    unfold cntB
    have := cnt_mono h n
    by_cases e : T n = true
    · rw [if_pos e, if_pos (h n e)]
      omega
    · rw [if_neg e]
      split <;> omega
