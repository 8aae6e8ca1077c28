-- PURE: laying twines
theorem cntB_clr {L : Nat → Bool} {b n : Nat} (hb : b < n) (hL : L b = true) : cntB L n = cntB (clrB L b) n + 1 := by
  rw [← cntB_set (tb := clrB L b) (b := b) (by simp [clrB]) hb]
  refine cntB_congr (fun j _ => ?_)
  unfold setB clrB
  by_cases e : j = b
  · rw [if_pos e, e, hL]
  · rw [if_neg e, if_neg e]
theorem cntB_pos {L : Nat → Bool} {b : Nat} (hL : L b = true) : ∀ {n : Nat}, b < n → 0 < cntB L n
  | 0, h => absurd h (Nat.not_lt_zero b)
  | n + 1, h => by
    rw [cntB_1]
    by_cases e : b = n
    · rw [← e, if_pos hL]
      omega
    · have := cntB_pos hL (n := n) (by omega)
      omega
/-- a size of what is left, that falls with each bar laid -/
def szOK (sz : (Nat → Bool) → Nat) : Prop := (∀ L b, b < 100 → L b = true → sz L = sz (clrB L b) + 1) ∧ (∀ L, sz L = 0 → ∀ b, b < 100 → L b = false) ∧ ∀ L, sz L ≤ 100
theorem sz_cnt : szOK (fun L => cntB L 100) := ⟨fun L b hb hL => cntB_clr hb hL, fun L h b hb => by
  cases hz : L b
  · rfl
  · have h1 := cntB_pos hz (n := 100) hb
    have h : cntB L 100 = 0 := h
    rw [h] at h1
    exact absurd h1 (Nat.lt_irrefl 0), fun L => cntB_le 100⟩
theorem deg_none {sz : (Nat → Bool) → Nat} (hs : szOK sz) {L : Nat → Bool} {v : Nat} (hv : v < 121) (he : v % 2 = 0) (h : sz L = 0) : degN L v = 0 := by
  rcases Nat.eq_zero_or_pos (degN L v) with e | e
  · exact e
  · obtain ⟨w, hw, b, hb, hL⟩ := degN_pos.mp e
    rw [hs.2.1 L h b (G1 hv he hw hb).2.2.1] at hL
    cases hL
section LAY
variable {T : Nat → Bool} {lab : Nat → Nat}
def GI (T : Nat → Bool) (s : LV) : Prop := (∀ b, s.1 b = true → T b = true) ∧ ∀ v w b, v < 121 → v % 2 = 0 → w < 4 → barN v w = some b → T b = true → s.1 b = false → s.2 v = true
/-- from s to r: less is left, more is reached, of parts with a knot reached or the part p -/
def to2 (sz : (Nat → Bool) → Nat) (s r : LV) : Prop := (∀ b, r.1 b = true → s.1 b = true) ∧ (∀ v, s.2 v = true → r.2 v = true) ∧ sz r.1 ≤ sz s.1
theorem deg_mono {L L2 : Nat → Bool} {v : Nat} (h : ∀ b, L2 b = true → L b = true) (h0 : degN L v = 0) : degN L2 v = 0 := by
  rcases Nat.eq_zero_or_pos (degN L2 v) with e | e
  · exact e
  · obtain ⟨w, hw, b, hb, hL⟩ := degN_pos.mp e
    have := degN_pos.mpr ⟨w, hw, b, hb, h b hL⟩
    omega
theorem lyF_0 {s : LV} {x : Nat} : lyF 0 s x = s := rfl
theorem lyF_none {m : Nat} {s : LV} {x : Nat} (h : wayN s.1 x = none) : lyF (m + 1) s x = s := by
  unfold lyF
  rw [h]
theorem lyF_some {m : Nat} {s : LV} {x w : Nat} (h : wayN s.1 x = some w) : lyF (m + 1) s x = lyF m (clrB s.1 (barD x w), setB s.2 (knN x w)) (knN x w) := by
  conv => lhs; unfold lyF
  rw [h]
theorem rdF_0 {i : Nat} {s : LV} {is : Bool} : rdF 0 i s is = (s, is) := rfl
theorem rdF_pos {m i : Nat} {s : LV} {is : Bool} (h : s.2 i = true ∧ 0 < degN s.1 i) : rdF (m + 1) i s is = rdF m (i + 2) (lyS s i) true := by
  conv => lhs; unfold rdF
  rw [if_pos h]
theorem rdF_neg {m i : Nat} {s : LV} {is : Bool} (h : ¬ (s.2 i = true ∧ 0 < degN s.1 i)) : rdF (m + 1) i s is = rdF m (i + 2) s is := by
  conv => lhs; unfold rdF
  rw [if_neg h]
theorem rgF_0 {s : LV} : rgF 0 s = s := rfl
theorem rgF_pos {m : Nat} {s : LV} (h : (rdF 61 0 s false).2 = true) : rgF (m + 1) s = rgF m (rdF 61 0 s false).1 := by
  conv => lhs; unfold rgF
  unfold rd1
  rw [if_pos h]
theorem rgF_neg {m : Nat} {s : LV} (h : ¬ (rdF 61 0 s false).2 = true) : rgF (m + 1) s = (rdF 61 0 s false).1 := by
  conv => lhs; unfold rgF
  unfold rd1
  rw [if_neg h]
theorem ly_ok {sz : (Nat → Bool) → Nat} (hs : szOK sz) (hC : labC T lab) : ∀ (m : Nat) (s : LV) (x : Nat), sz s.1 ≤ m → x < 121 → x % 2 = 0 → s.2 x = true → GI T s → GI T (lyF m s x) ∧ to2 sz s (lyF m s x) ∧ (∀ v, v < 121 → v % 2 = 0 → (lyF m s x).2 v = true → s.2 v = true ∨ lab v = lab x) ∧ (0 < degN s.1 x → sz (lyF m s x).1 < sz s.1) ∧ ∃ z, z < 121 ∧ z % 2 = 0 ∧ lab z = lab x ∧ degN (lyF m s x).1 z = 0 ∧ ∀ v, v < 121 → v % 2 = 0 → (degN (lyF m s x).1 v + (if v = x then 1 else 0) + (if v = z then 1 else 0)) % 2 = degN s.1 v % 2
  | 0, s, x, hm, hx, he, hr, hG => by
    have h0 := deg_none hs hx he (show sz s.1 = 0 by omega)
    rw [lyF_0]
    refine ⟨hG, ⟨fun _ h => h, fun _ h => h, Nat.le_refl _⟩, fun v _ _ h => Or.inl h, fun h => by omega, x, hx, he, rfl, h0, fun v _ _ => by split <;> omega⟩
  | m + 1, s, x, hm, hx, he, hr, hG => by
    cases hw0 : wayN s.1 x with
    | none =>
      have h0 : degN s.1 x = 0 := by
        rcases Nat.eq_zero_or_pos (degN s.1 x) with e | e
        · exact e
        · obtain ⟨w, hw, b, hb, hL⟩ := degN_pos.mp e
          have := (wayF_spec s.1 x 4 0).2 hw0 w (by omega) (by omega)
          rw [hb] at this
          have this : s.1 b = false := this
          rw [hL] at this
          cases this
      rw [lyF_none hw0]
      refine ⟨hG, ⟨fun _ h => h, fun _ h => h, Nat.le_refl _⟩, fun v _ _ h => Or.inl h, fun h => by omega, x, hx, he, rfl, h0, fun v _ _ => by split <;> omega⟩
    | some w =>
      obtain ⟨hw, b, hb, hL⟩ := wayN_some hw0
      obtain ⟨g1, g2, g3, g4, w2, hw2, hb2, hk2⟩ := G1 hx he hw hb
      have hbd : barD x w = b := by unfold barD; rw [hb]; rfl
      have hly : lab (knN x w) = lab x := hC.1 x w hx he hw (lft_iff.mpr ⟨b, hb, hG.1 b hL⟩)
      obtain ⟨s2, hs2⟩ : ∃ s2 : LV, s2 = (clrB s.1 b, setB s.2 (knN x w)) := ⟨_, rfl⟩
      obtain ⟨y, hy⟩ : ∃ y, y = knN x w := ⟨_, rfl⟩
      have e1 : s2.1 = clrB s.1 b := by rw [hs2]
      have e2 : s2.2 = setB s.2 y := by rw [hs2, hy]
      have hset : ∀ v, s2.2 v = true ↔ s.2 v = true ∨ v = y := fun v => by
        rw [e2]
        unfold setB
        by_cases e : v = y
        · rw [if_pos e]; exact ⟨fun _ => Or.inr e, fun _ => rfl⟩
        · rw [if_neg e]; exact ⟨Or.inl, fun q => q.resolve_right e⟩
      have hclr : ∀ b2, s2.1 b2 = true ↔ s.1 b2 = true ∧ b2 ≠ b := fun b2 => by
        rw [e1]
        unfold clrB
        by_cases e : b2 = b
        · rw [if_pos e]; exact ⟨fun h => (by cases h), fun h => absurd e h.2⟩
        · rw [if_neg e]; exact ⟨fun h => ⟨h, e⟩, fun h => h.1⟩
      have hcnt : sz s.1 = sz s2.1 + 1 := by rw [e1]; exact hs.1 s.1 b g3 hL
      have hG2 : GI T s2 := by
        refine ⟨fun b2 h => hG.1 b2 ((hclr b2).mp h).1, fun v w9 b2 hv hev hw9 hb9 hT h => ?_⟩
        by_cases e : b2 = b
        · subst e
          have hc := G2 hx he hw hb hv hev
          have hpos : 0 < (ways.filter (fun w2 => decide (barN v w2 = some b2))).length := by
            rw [List.length_pos_iff_exists_mem]
            refine ⟨w9, List.mem_filter.mpr ⟨?_, by simp [hb9]⟩⟩
            simp [ways]
            omega
          rw [hset v]
          by_cases e3 : v = x
          · rw [e3]; exact Or.inl hr
          · by_cases e4 : v = y
            · exact Or.inr e4
            · rw [if_neg e3, if_neg (by rw [← hy]; exact e4)] at hc
              omega
        · rw [hset v]
          refine Or.inl (hG.2 v w9 b2 hv hev hw9 hb9 hT ?_)
          cases hz : s.1 b2
          · rfl
          · have := (hclr b2).mpr ⟨hz, e⟩
            rw [h] at this
            cases this
      rw [← hy] at g1 g2 hly hk2
      obtain ⟨r1, r2, r3, r4, z, z1, z2, z3, z4, z5⟩ := ly_ok hs hC m s2 y (by omega) g1 g2 ((hset y).mpr (Or.inr rfl)) hG2
      rw [lyF_some hw0, hbd, ← hs2, ← hy]
      refine ⟨r1, ⟨fun b2 h => ((hclr b2).mp (r2.1 b2 h)).1, fun v h => r2.2.1 v ((hset v).mpr (Or.inl h)), by have := r2.2.2; omega⟩, fun v hv hev h => ?_, fun _ => by have := r2.2.2; omega, z, z1, z2, z3.trans hly, z4, fun v hv hev => ?_⟩
      · rcases r3 v hv hev h with h | h
        · rcases (hset v).mp h with h | h
          · exact Or.inl h
          · exact Or.inr (by rw [h]; exact hly)
        · exact Or.inr (h.trans hly)
      · have h5 := z5 v hv hev
        have h6 := deg_clr hx he hw hb hL hv hev
        rw [← e1, ← hy] at h6
        have p1 : (if v = x then 1 else 0) ≤ 1 := by split <;> omega
        have p2 : (if v = y then 1 else 0) ≤ 1 := by split <;> omega
        omega
theorem lyS_ok {sz : (Nat → Bool) → Nat} (hs : szOK sz) (hC : labC T lab) {s : LV} {x : Nat} (hx : x < 121) (he : x % 2 = 0) (hG : GI T s) : GI T (lyS s x) ∧ to2 sz s (lyS s x) ∧ (lyS s x).2 x = true ∧ (∀ v, v < 121 → v % 2 = 0 → (lyS s x).2 v = true → s.2 v = true ∨ lab v = lab x) ∧ (0 < degN s.1 x → sz (lyS s x).1 < sz s.1) ∧ ∃ z, z < 121 ∧ z % 2 = 0 ∧ lab z = lab x ∧ degN (lyS s x).1 z = 0 ∧ ∀ v, v < 121 → v % 2 = 0 → (degN (lyS s x).1 v + (if v = x then 1 else 0) + (if v = z then 1 else 0)) % 2 = degN s.1 v % 2 := by
  have hset : ∀ v, setB s.2 x v = true ↔ s.2 v = true ∨ v = x := fun v => by
    unfold setB
    by_cases e : v = x
    · rw [if_pos e]; exact ⟨fun _ => Or.inr e, fun _ => rfl⟩
    · rw [if_neg e]; exact ⟨Or.inl, fun q => q.resolve_right e⟩
  have hG2 : GI T (s.1, setB s.2 x) := ⟨hG.1, fun v w b hv hev hw hb hT h => (hset v).mpr (Or.inl (hG.2 v w b hv hev hw hb hT h))⟩
  obtain ⟨r1, r2, r3, r4, r5⟩ := ly_ok hs hC 100 (s.1, setB s.2 x) x (hs.2.2 _) hx he ((hset x).mpr (Or.inr rfl)) hG2
  unfold lyS
  refine ⟨r1, ⟨r2.1, fun v h => r2.2.1 v ((hset v).mpr (Or.inl h)), r2.2.2⟩, r2.2.1 x ((hset x).mpr (Or.inr rfl)), fun v hv hev h => ?_, r4, r5⟩
  rcases r3 v hv hev h with h | h
  · rcases (hset v).mp h with h | h
    · exact Or.inl h
    · exact Or.inr (by rw [h])
  · exact Or.inr h
def rch (lab : Nat → Nat) (s r : LV) : Prop := ∀ v, v < 121 → v % 2 = 0 → r.2 v = true → ∃ u, u < 121 ∧ u % 2 = 0 ∧ s.2 u = true ∧ lab u = lab v
theorem rd_ok {sz : (Nat → Bool) → Nat} (hs : szOK sz) (hC : labC T lab) : ∀ (m i : Nat) (s : LV) (is : Bool), i + 2 * m = 122 → i % 2 = 0 → GI T s → GI T (rdF m i s is).1 ∧ to2 sz s (rdF m i s is).1 ∧ rch lab s (rdF m i s is).1 ∧ (is = true → (rdF m i s is).2 = true) ∧ ((rdF m i s is).2 = true → is = true ∨ sz (rdF m i s is).1.1 < sz s.1) ∧ ((rdF m i s is).2 = false → (rdF m i s is).1 = s ∧ ∀ v, v < 121 → v % 2 = 0 → i ≤ v → s.2 v = true → degN s.1 v = 0)
  | 0, i, s, is, hi, he, hG => by
    rw [rdF_0]
    exact ⟨hG, ⟨fun _ h => h, fun _ h => h, Nat.le_refl _⟩, fun v hv hev h => ⟨v, hv, hev, h, rfl⟩, fun h => h, fun h => Or.inl h, fun _ => ⟨rfl, fun v hv hev h => by omega⟩⟩
  | m + 1, i, s, is, hi, he, hG => by
    by_cases hc : s.2 i = true ∧ 0 < degN s.1 i
    · rw [rdF_pos hc]
      obtain ⟨a1, a2, a3, a4, a5, -⟩ := lyS_ok hs hC (show i < 121 by omega) he hG
      obtain ⟨b1, b2, b3, b4, b5, b6⟩ := rd_ok hs hC m (i + 2) (lyS s i) true (by omega) (by omega) a1
      refine ⟨b1, ⟨fun b h => a2.1 b (b2.1 b h), fun v h => b2.2.1 v (a2.2.1 v h), Nat.le_trans b2.2.2 a2.2.2⟩, fun v hv hev h => ?_, fun _ => b4 rfl, fun _ => Or.inr (by have := a5 hc.2; have := b2.2.2; omega), fun h => by rw [b4 rfl] at h; cases h⟩
      obtain ⟨u, u1, u2, u3, u4⟩ := b3 v hv hev h
      rcases a4 u u1 u2 u3 with h | h
      · exact ⟨u, u1, u2, h, u4⟩
      · exact ⟨i, by omega, he, hc.1, by rw [← u4, h]⟩
    · rw [rdF_neg hc]
      obtain ⟨b1, b2, b3, b4, b5, b6⟩ := rd_ok hs hC m (i + 2) s is (by omega) (by omega) hG
      refine ⟨b1, b2, b3, b4, b5, fun h => ⟨(b6 h).1, fun v hv hev hiv hr => ?_⟩⟩
      by_cases e : v = i
      · subst e
        rcases Nat.eq_zero_or_pos (degN s.1 v) with q | q
        · exact q
        · exact absurd ⟨hr, q⟩ hc
      · exact (b6 h).2 v hv hev (by omega) hr
theorem rg_ok {sz : (Nat → Bool) → Nat} (hs : szOK sz) (hC : labC T lab) : ∀ (m : Nat) (s : LV), sz s.1 ≤ m → GI T s → GI T (rgF m s) ∧ to2 sz s (rgF m s) ∧ rch lab s (rgF m s) ∧ ∀ v, v < 121 → v % 2 = 0 → (rgF m s).2 v = true → degN (rgF m s).1 v = 0
  | 0, s, hm, hG => by
    rw [rgF_0]
    exact ⟨hG, ⟨fun _ h => h, fun _ h => h, Nat.le_refl _⟩, fun v hv hev h => ⟨v, hv, hev, h, rfl⟩, fun v hv hev _ => deg_none hs hv hev (show sz s.1 = 0 by omega)⟩
  | m + 1, s, hm, hG => by
    obtain ⟨b1, b2, b3, b4, b5, b6⟩ := rd_ok hs hC 61 0 s false rfl rfl hG
    by_cases hc : (rdF 61 0 s false).2 = true
    · rw [rgF_pos hc]
      have hlt : sz (rdF 61 0 s false).1.1 < sz s.1 := by
        rcases b5 hc with h | h
        · cases h
        · exact h
      obtain ⟨c1, c2, c3, c4⟩ := rg_ok hs hC m (rdF 61 0 s false).1 (by omega) b1
      refine ⟨c1, ⟨fun b h => b2.1 b (c2.1 b h), fun v h => c2.2.1 v (b2.2.1 v h), Nat.le_trans c2.2.2 b2.2.2⟩, fun v hv hev h => ?_, c4⟩
      obtain ⟨u, u1, u2, u3, u4⟩ := c3 v hv hev h
      obtain ⟨u', w1, w2, w3, w4⟩ := b3 u u1 u2 u3
      exact ⟨u', w1, w2, w3, w4.trans u4⟩
    · rw [rgF_neg hc]
      have hf : (rdF 61 0 s false).2 = false := by
        cases hz : (rdF 61 0 s false).2
        · rfl
        · exact absurd hz hc
      obtain ⟨e1, e2⟩ := b6 hf
      rw [e1]
      exact ⟨hG, ⟨fun _ h => h, fun _ h => h, Nat.le_refl _⟩, fun v hv hev h => ⟨v, hv, hev, h, rfl⟩, fun v hv hev h => e2 v hv hev (Nat.zero_le _) h⟩
end LAY
