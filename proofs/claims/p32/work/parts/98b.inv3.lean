-- PURE: every call keeps it: loads, sun, rigs, the braid, nets
theorem inv_upd {S S2 : St} {i m z : Nat} (hI : Inv S) (hi : i < S.nl) (h1 : S2.1 = S.1) (ht : S2.2.2 = S.2.2) (hf : ∀ f j, (j ≠ i ∨ (f ≠ 6 ∧ f ≠ 7)) → S2.2.1 f j = S.2.1 f j) (h6 : S2.2.1 6 i = nI m) (h7 : S2.2.1 7 i = nI z) (hm : m ≤ 1000) (hz : z ≤ 3) (hz0 : z = 0 → S.2.1 7 i = 0) : Inv S2 := by
  obtain ⟨⟨n1, n2, n3⟩, hfib, ⟨hlin, hsum, hyar⟩, hrig, hbra, hnet⟩ := hI
  have hff : ∀ f, f ≠ 6 → f ≠ 7 → S2.2.1 f = S.2.1 f := fun f a b => funext fun j => hf f j (Or.inr ⟨a, b⟩)
  have hk : knd S2 = knd S := funext fun j => by
    show ixN (S2.2.1 0 j) = ixN (S.2.1 0 j)
    rw [hff 0 (by decide) (by decide)]
  refine ⟨⟨by show S2.1 0 0 ≤ 60; rw [h1]; exact n1, by show S2.1 0 1 ≤ 12; rw [h1]; exact n2, by show S2.1 0 2 ≤ 5; rw [h1]; exact n3⟩, hfib.tr (hff 9 (by decide) (by decide)) (hff 10 (by decide) (by decide)), ⟨fun j hj => ?_, ?_, fun j hj => ?_⟩, rigT (by rw [h1]) (by rw [h1]) (by rw [h1]) (hff 11 (by decide) (by decide)) (by rw [h1]; exact Nat.le_refl _) hrig, braT (by rw [h1]) (by rw [h1]) (by rw [h1]) (by rw [h1]) hbra, netT (by rw [h1]) (by rw [h1]) (by rw [h1]) hnet⟩
  · have hj : j < S.1 0 0 := by rw [← h1]; exact hj
    obtain ⟨k', h', l', s', m', z', a1, a2, a3, a4, a5, a6, b0, b1, b2, b3, b6, b7⟩ := hlin j hj
    show lin1 (S2.2.1 0 j) (S2.2.1 1 j) (S2.2.1 2 j) (S2.2.1 3 j) (S2.2.1 6 j) (S2.2.1 7 j)
    rw [hff 0 (by decide) (by decide), hff 1 (by decide) (by decide), hff 2 (by decide) (by decide), hff 3 (by decide) (by decide)]
    by_cases e : j = i
    · subst e
      rw [h6, h7]
      exact ⟨k', h', l', s', m, z, a1, a2, a3, a4, hm, hz, b0, b1, b2, b3, rfl, rfl⟩
    · rw [hf 6 j (Or.inl e), hf 7 j (Or.inl e)]
      exact ⟨k', h', l', s', m', z', a1, a2, a3, a4, a5, a6, b0, b1, b2, b3, b6, b7⟩
  · show sumN (whL S2) (S2.1 0 0) ≤ 10000 * S2.1 0 0
    rw [h1]
    refine Nat.le_trans (sumN_le (fun j hj => ?_)) hsum
    show (if S2.2.1 7 j = 0 then ixN (S2.2.1 2 j) else 0) ≤ (if S.2.1 7 j = 0 then ixN (S.2.1 2 j) else 0)
    rw [hff 2 (by decide) (by decide)]
    by_cases e : j = i
    · subst e
      rw [h7]
      by_cases q : z = 0
      · rw [hz0 q, if_pos rfl]
        split
        · exact Nat.le_refl _
        · exact Nat.zero_le _
      · have : ¬ nI z = 0 := nI_ne0 (by omega) (by omega)
        rw [if_neg this]
        exact Nat.zero_le _
    · rw [hf 7 j (Or.inl e)]
      exact Nat.le_refl _
  · have hj : j < S.1 0 0 := by rw [← h1]; exact hj
    have := hyar j hj
    rw [hk]
    unfold lnkS St.lk St.i at this ⊢
    rw [ht, hff 8 (by decide) (by decide)]
    exact this
theorem harm_v {S : St} {i : Nat} {m : Int32} : (harmS S i m).2.1 6 i = m ∧ (harmS S i m).2.1 7 i = wz m (S.2.1 7 i) ∧ ∀ f j, (j ≠ i ∨ (f ≠ 6 ∧ f ≠ 7)) → (harmS S i m).2.1 f j = S.2.1 f j := by
  refine ⟨?_, ?_, fun f j h => ?_⟩
  · simp [harmS, stI]
  · simp [harmS, stI]
  · simp only [harmS, stI]
    rw [if_neg (by omega), if_neg (by omega)]
theorem inv_harm {S : St} {i a : Nat} {x : Int32} (hI : Inv S) (hi : i < S.nl) (hx : x = nI a) (ha : a ≤ 100) : Inv (harmS S i (imin 1000 (S.i 6 i + x))) := by
  obtain ⟨k', h', l', s', m', z', a1, a2, a3, a4, a5, a6, b0, b1, b2, b3, b6, b7⟩ := hI.2.2.1.1 i hi
  have hm : imin 1000 (S.i 6 i + x) = nI (min 1000 (m' + a)) := by
    rw [b6, hx, nI_add, show (1000 : Int32) = nI 1000 from rfl, imin_nI (by decide) (by omega)]
  obtain ⟨e6, e7, eo⟩ := harm_v (S := S) (i := i) (m := imin 1000 (S.i 6 i + x))
  rw [hm] at e6 e7 eo ⊢
  have b7 : S.2.1 7 i = nI z' := b7
  by_cases q : nI (min 1000 (m' + a)) < 300
  · have e9 : wz (nI (min 1000 (m' + a))) (S.2.1 7 i) = nI z' := by
      unfold wz
      rw [if_pos q]
      exact b7
    rw [e9] at e7
    exact inv_upd hI hi rfl rfl eo e6 e7 (by omega) a6 (fun e => by rw [b7, e]; rfl)
  · have e9 : wz (nI (min 1000 (m' + a))) (S.2.1 7 i) = nI 3 := by
      unfold wz
      rw [if_neg q]
      rfl
    rw [e9] at e7
    exact inv_upd hI hi rfl rfl eo e6 e7 (by omega) (by decide) (fun e => absurd e (by decide))
theorem inv_load {S : St} {i : Nat} {f : Int32} (hI : Inv S) (hi : i < S.nl) (hf : rng f 1 1000000) : Inv (loadS S i f) := by
  unfold loadS
  obtain ⟨k, s, B, h1, -, -, h2, h3, e1, -⟩ := hI.2.2.1.1.bear hi
  have hp := pow3 h1
  by_cases q : bearS S i < f
  · rw [if_pos q]
    obtain ⟨k', h', l', s', m', z', a1, a2, a3, a4, a5, a6, b0, b1, b2, b3, b6, b7⟩ := hI.2.2.1.1 i hi
    refine inv_upd (m := m') (z := 2) hI hi rfl rfl (fun g j h => ?_) ?_ ?_ a5 (by decide) (fun e => absurd e (by decide))
    · simp only [stI]
      rw [if_neg (by omega)]
    · simp only [stI]
      rw [if_neg (by omega)]
      exact b6
    · simp [stI]
      rfl
  · rw [if_neg q]
    obtain ⟨n, h5, h6, rfl⟩ := rng1_nat (b := 1000000) (by decide) hf
    rw [e1, nI_ltI (by omega) (by omega)] at q
    obtain ⟨q1, q2, q3⟩ := load_q h6 h5 (show n ≤ B by omega) (by omega)
    have hq : 10 * n / B * (10 * n / B) ≤ 10 * 10 := Nat.mul_le_mul q1 q1
    exact inv_harm (a := 10 * n / B * (10 * n / B)) hI hi (by rw [e1, q2, pk_mul]) (by omega)
theorem inv_sun {x : Int32} {a : Nat} (hx : x = nI a) (ha : a ≤ 100) : ∀ (f i : Nat) (S : St) (c : Int32), Inv S → Inv (sunF x f i S c).1
  | 0, _, _, _, h => h
  | f + 1, i, S, c, h => by
    unfold sunF
    by_cases q : i < S.nl ∧ S.i 7 i = 0
    · rw [if_pos q]
      exact inv_sun hx ha f (i + 1) _ _ (inv_harm h q.1 hx ha)
    · rw [if_neg q]
      exact inv_sun hx ha f (i + 1) _ _ h
theorem inv_sun0 {S : St} {x : Int32} (h : Inv S) (hx : rng x 1 1000) : Inv (sunF (x / 10) 60 0 S 0).1 := by
  obtain ⟨n, h1, h2, rfl⟩ := rng1_nat (b := 1000) (by decide) hx
  exact inv_sun (a := n / 10) (by rw [show (10 : Int32) = nI 10 from rfl, pk_div (by omega) (by decide) (by decide)]) (by omega) 60 0 S 0 h
theorem inv_fibre {S : St} {i : Nat} {y z : Int32} (hI : Inv S) (hi : i < 4) (h1 : rng y 1 1000) (h2 : rng z 1 100) : Inv (stI (stI S 9 i y) 10 i z) := by
  obtain ⟨hsz, hfib, hlin, hrig, hbra, hnet⟩ := hI
  obtain ⟨a, a1, a2, rfl⟩ := rng1_nat (b := 1000) (by decide) h1
  obtain ⟨b, b1, b2, rfl⟩ := rng1_nat (b := 100) (by decide) h2
  refine ⟨hsz, fun j hj => ?_, linT (S := S) rfl (fun f hf => funext fun j => ?_) rfl hlin, rigT (S := S) rfl rfl rfl (funext fun j => ?_) (Nat.le_refl _) hrig, braT rfl rfl rfl rfl hbra, netT rfl rfl rfl hnet⟩
  · obtain ⟨c, e, c1, c2, e1, e2, ec, ee⟩ := hfib j hj
    by_cases q : j = i
    · refine ⟨a, b, a1, a2, b1, b2, ?_, ?_⟩
      · show (if 9 = 10 ∧ j = i then nI b else if 9 = 9 ∧ j = i then nI a else S.2.1 9 j) = nI a
        rw [if_neg (by omega), if_pos ⟨rfl, q⟩]
      · show (if 10 = 10 ∧ j = i then nI b else if 10 = 9 ∧ j = i then nI a else S.2.1 10 j) = nI b
        rw [if_pos ⟨rfl, q⟩]
    · refine ⟨c, e, c1, c2, e1, e2, ?_, ?_⟩
      · show (if 9 = 10 ∧ j = i then nI b else if 9 = 9 ∧ j = i then nI a else S.2.1 9 j) = nI c
        rw [if_neg (by omega), if_neg (by omega)]
        exact ec
      · show (if 10 = 10 ∧ j = i then nI b else if 10 = 9 ∧ j = i then nI a else S.2.1 10 j) = nI e
        rw [if_neg (by omega), if_neg (by omega)]
        exact ee
  · show (if f = 10 ∧ j = i then nI b else if f = 9 ∧ j = i then nI a else S.2.1 f j) = S.2.1 f j
    rw [if_neg (by omega), if_neg (by omega)]
  · show (if 11 = 10 ∧ j = i then nI b else if 11 = 9 ∧ j = i then nI a else S.2.1 11 j) = S.2.1 11 j
    rw [if_neg (by omega), if_neg (by omega)]
theorem inv_rig {S : St} {li pn : Nat} {fr : Int32} (hI : Inv S) (hl : li < S.nl) (hp1 : 1 ≤ pn) (hp6 : pn ≤ 6) (hf : rng fr 0 50) (hn : S.nr < 12) : Inv (newR S li pn fr) := by
  obtain ⟨⟨n1, n2, n3⟩, hfib, hlin, hrig, hbra, hnet⟩ := hI
  obtain ⟨f, f1, rfl⟩ := rng0_nat (b := 50) (by decide) hf
  have hn : S.1 0 1 < 12 := hn
  have e01 : (newR S li pn (nI f)).1 0 1 = S.1 0 1 + 1 := by simp [newR]
  have e0 : ∀ i, i ≠ 1 → (newR S li pn (nI f)).1 0 i = S.1 0 i := fun i hi => by simp [newR, hi]
  have en : ∀ g, g ≠ 0 → g ≠ 1 → g ≠ 2 → (newR S li pn (nI f)).1 g = S.1 g := fun g a b c => funext fun i => by simp [newR, a, b, c]
  have ei : ∀ g, g ≠ 11 → (newR S li pn (nI f)).2.1 g = S.2.1 g := fun g a => funext fun i => by simp [newR, a]
  refine ⟨⟨by show (newR S li pn (nI f)).1 0 0 ≤ 60; rw [e0 0 (by decide)]; exact n1, by show (newR S li pn (nI f)).1 0 1 ≤ 12; omega, by show (newR S li pn (nI f)).1 0 2 ≤ 5; rw [e0 2 (by decide)]; exact n3⟩, hfib.tr (ei 9 (by decide)) (ei 10 (by decide)), linT (e0 0 (by decide)) (fun g hg => ei g (by omega)) rfl hlin, fun r hr => ?_, braT (e0 3 (by decide)) (e0 4 (by decide)) (en 3 (by decide) (by decide) (by decide)) (en 4 (by decide) (by decide) (by decide)) hbra, netT (e0 2 (by decide)) (en 5 (by decide) (by decide) (by decide)) (en 6 (by decide) (by decide) (by decide)) hnet⟩
  have hr : r < S.1 0 1 + 1 := by rw [← e01]; exact hr
  show (newR S li pn (nI f)).1 1 r < (newR S li pn (nI f)).1 0 0 ∧ 1 ≤ (newR S li pn (nI f)).1 2 r ∧ (newR S li pn (nI f)).1 2 r ≤ 6 ∧ ∃ f2, f2 ≤ 50 ∧ (newR S li pn (nI f)).2.1 11 r = nI f2
  rw [e0 0 (by decide)]
  by_cases e : r = S.1 0 1
  · subst e
    have q1 : (newR S li pn (nI f)).1 1 (S.1 0 1) = li := by simp [newR]
    have q2 : (newR S li pn (nI f)).1 2 (S.1 0 1) = pn := by simp [newR]
    have q3 : (newR S li pn (nI f)).2.1 11 (S.1 0 1) = nI f := by simp [newR]
    rw [q1, q2, q3]
    exact ⟨hl, hp1, hp6, f, f1, rfl⟩
  · have q1 : (newR S li pn (nI f)).1 1 r = S.1 1 r := by simp [newR, e]
    have q2 : (newR S li pn (nI f)).1 2 r = S.1 2 r := by simp [newR, e]
    have q3 : (newR S li pn (nI f)).2.1 11 r = S.2.1 11 r := by simp [newR, e]
    rw [q1, q2, q3]
    exact hrig r (by show r < S.1 0 1; omega)
theorem inv_net {S : St} {rn cn : Nat} (hI : Inv S) (hr1 : 1 ≤ rn) (hr : rn ≤ 10) (hc1 : 1 ≤ cn) (hc : cn ≤ 10) (hn : S.nn < 5) : Inv (newN S rn cn) := by
  obtain ⟨⟨n1, n2, n3⟩, hfib, hlin, hrig, hbra, hnet⟩ := hI
  have hn : S.1 0 2 < 5 := hn
  have e02 : (newN S rn cn).1 0 2 = S.1 0 2 + 1 := by simp [newN]
  have e0 : ∀ i, i ≠ 2 → (newN S rn cn).1 0 i = S.1 0 i := fun i hi => by simp [newN, hi]
  have en : ∀ g, g ≠ 0 → g ≠ 5 → g ≠ 6 → (newN S rn cn).1 g = S.1 g := fun g a b c => funext fun i => by simp [newN, a, b, c]
  refine ⟨⟨by show (newN S rn cn).1 0 0 ≤ 60; rw [e0 0 (by decide)]; exact n1, by show (newN S rn cn).1 0 1 ≤ 12; rw [e0 1 (by decide)]; exact n2, by show (newN S rn cn).1 0 2 ≤ 5; omega⟩, hfib.tr rfl rfl, linT (e0 0 (by decide)) (fun g hg => rfl) rfl hlin, rigT (e0 1 (by decide)) (en 1 (by decide) (by decide) (by decide)) (en 2 (by decide) (by decide) (by decide)) rfl (by rw [e0 0 (by decide)]; exact Nat.le_refl _) hrig, braT (e0 3 (by decide)) (e0 4 (by decide)) (en 3 (by decide) (by decide) (by decide)) (en 4 (by decide) (by decide) (by decide)) hbra, fun r hr2 => ?_⟩
  have hr2 : r < S.1 0 2 + 1 := by rw [← e02]; exact hr2
  show 1 ≤ (newN S rn cn).1 5 r ∧ (newN S rn cn).1 5 r ≤ 10 ∧ 1 ≤ (newN S rn cn).1 6 r ∧ (newN S rn cn).1 6 r ≤ 10
  by_cases e : r = S.1 0 2
  · subst e
    have q1 : (newN S rn cn).1 5 (S.1 0 2) = rn := by simp [newN]
    have q2 : (newN S rn cn).1 6 (S.1 0 2) = cn := by simp [newN]
    rw [q1, q2]
    exact ⟨hr1, hr, hc1, hc⟩
  · have q1 : (newN S rn cn).1 5 r = S.1 5 r := by simp [newN, e]
    have q2 : (newN S rn cn).1 6 r = S.1 6 r := by simp [newN, e]
    rw [q1, q2]
    exact hnet r (by show r < S.1 0 2; omega)
theorem inv_tear {S : St} {n : Nat} {tb : Nat → Bool} (hI : Inv S) : Inv (stT S n tb) := by
  obtain ⟨hsz, hfib, hlin, hrig, hbra, hnet⟩ := hI
  exact ⟨hsz, hfib, linT rfl (fun _ _ => rfl) rfl hlin, hrig, hbra, hnet⟩
theorem inv_bra {S : St} {c : Nat} (hI : Inv S) (h1 : 3 ≤ c) (h2 : c ≤ 8) : Inv (brS S c) := by
  obtain ⟨⟨n1, n2, n3⟩, hfib, hlin, hrig, hbra, hnet⟩ := hI
  have e0 : ∀ i, i ≠ 3 → i ≠ 4 → (brS S c).1 0 i = S.1 0 i := fun i a b => by simp [brS, a, b]
  have en : ∀ g, g ≠ 0 → g ≠ 4 → (brS S c).1 g = S.1 g := fun g a b => funext fun i => by simp [brS, a, b]
  have ei : ∀ g, g ≠ 12 → (brS S c).2.1 g = S.2.1 g := fun g a => funext fun i => by simp [brS, a]
  refine ⟨⟨by show (brS S c).1 0 0 ≤ 60; rw [e0 0 (by decide) (by decide)]; exact n1, by show (brS S c).1 0 1 ≤ 12; rw [e0 1 (by decide) (by decide)]; exact n2, by show (brS S c).1 0 2 ≤ 5; rw [e0 2 (by decide) (by decide)]; exact n3⟩, hfib.tr (ei 9 (by decide)) (ei 10 (by decide)), linT (e0 0 (by decide) (by decide)) (fun g hg => ei g (by omega)) rfl hlin, rigT (e0 1 (by decide) (by decide)) (en 1 (by decide) (by decide)) (en 2 (by decide) (by decide)) (ei 11 (by decide)) (by rw [e0 0 (by decide) (by decide)]; exact Nat.le_refl _) hrig, ?_, netT (e0 2 (by decide) (by decide)) (en 5 (by decide) (by decide)) (en 6 (by decide) (by decide)) hnet⟩
  have c3 : (brS S c).1 0 3 = c := by simp [brS]
  have c4 : (brS S c).1 0 4 = 0 := by simp [brS]
  show 3 ≤ (brS S c).1 0 3 ∧ (brS S c).1 0 3 ≤ 8 ∧ (brS S c).1 0 4 ≤ 60 ∧ (∀ j, j < (brS S c).1 0 4 → (brS S c).1 3 j + 1 < (brS S c).1 0 3) ∧ ∀ j, j < 8 → (brS S c).1 4 j = pm ((brS S c).1 3) ((brS S c).1 0 4) j
  rw [c3, c4]
  refine ⟨h1, h2, by decide, fun j hj => absurd hj (Nat.not_lt_zero j), fun j hj => ?_⟩
  show (brS S c).1 4 j = j
  simp [brS]
theorem pm_congr {P P2 : Nat → Nat} : ∀ (n j : Nat), (∀ k, k < n → P2 k = P k) → pm P2 n j = pm P n j
  | 0, _, _ => rfl
  | n + 1, j, h => by
    show pm P2 n (tau (P2 n) j) = pm P n (tau (P n) j)
    rw [h n (by omega)]
    exact pm_congr n _ (fun k hk => h k (by omega))
theorem inv_cross {S : St} {p : Nat} {x : Int32} (hI : Inv S) (hp : p < S.ca - 1) (hc : S.cr < 60) : Inv (crS S p x) := by
  obtain ⟨⟨n1, n2, n3⟩, hfib, hlin, hrig, ⟨b1, b2, b3, b4, b5⟩, hnet⟩ := hI
  have hc : S.1 0 4 < 60 := hc
  have hp : p < S.1 0 3 - 1 := hp
  have b1 : 3 ≤ S.1 0 3 := b1
  have b2 : S.1 0 3 ≤ 8 := b2
  have e0 : ∀ i, i ≠ 4 → (crS S p x).1 0 i = S.1 0 i := fun i a => by simp [crS, a]
  have en : ∀ g, g ≠ 0 → g ≠ 3 → g ≠ 4 → (crS S p x).1 g = S.1 g := fun g a b c => funext fun i => by simp [crS, a, b, c]
  have ei : ∀ g, g ≠ 12 → (crS S p x).2.1 g = S.2.1 g := fun g a => funext fun i => by simp [crS, a]
  refine ⟨⟨by show (crS S p x).1 0 0 ≤ 60; rw [e0 0 (by decide)]; exact n1, by show (crS S p x).1 0 1 ≤ 12; rw [e0 1 (by decide)]; exact n2, by show (crS S p x).1 0 2 ≤ 5; rw [e0 2 (by decide)]; exact n3⟩, hfib.tr (ei 9 (by decide)) (ei 10 (by decide)), linT (e0 0 (by decide)) (fun g hg => ei g (by omega)) rfl hlin, rigT (e0 1 (by decide)) (en 1 (by decide) (by decide) (by decide)) (en 2 (by decide) (by decide) (by decide)) (ei 11 (by decide)) (by rw [e0 0 (by decide)]; exact Nat.le_refl _) hrig, ?_, netT (e0 2 (by decide)) (en 5 (by decide) (by decide) (by decide)) (en 6 (by decide) (by decide) (by decide)) hnet⟩
  have c4 : (crS S p x).1 0 4 = S.1 0 4 + 1 := by simp [crS]
  have cn : (crS S p x).1 3 (S.1 0 4) = p := by simp [crS]
  have co : ∀ j, j ≠ S.1 0 4 → (crS S p x).1 3 j = S.1 3 j := fun j hj => by simp [crS, hj]
  have c9 : ∀ j, (crS S p x).1 4 j = swN (S.1 4) p j := fun j => by simp [crS]
  show 3 ≤ (crS S p x).1 0 3 ∧ (crS S p x).1 0 3 ≤ 8 ∧ (crS S p x).1 0 4 ≤ 60 ∧ (∀ j, j < (crS S p x).1 0 4 → (crS S p x).1 3 j + 1 < (crS S p x).1 0 3) ∧ ∀ j, j < 8 → (crS S p x).1 4 j = pm ((crS S p x).1 3) ((crS S p x).1 0 4) j
  rw [e0 3 (by decide), c4]
  refine ⟨b1, b2, by omega, fun j hj => ?_, fun j hj => ?_⟩
  · by_cases e : j = S.1 0 4
    · rw [e, cn]
      omega
    · rw [co j e]
      exact b4 j (by show j < S.1 0 4; omega)
  · rw [c9 j, swN_tau, b5 _ (tau_lt (c := 8) (by omega) hj)]
    show pm (S.1 3) (S.1 0 4) (tau p j) = pm ((crS S p x).1 3) (S.1 0 4) (tau ((crS S p x).1 3 (S.1 0 4)) j)
    rw [cn]
    exact (pm_congr _ _ (fun k hk => co k (by omega))).symm
theorem inv_0 : Inv St0 := by
  refine ⟨⟨by decide, by decide, by decide⟩, fun i hi => ⟨100, 20, by decide, by decide, by decide, by decide, rfl, rfl⟩, ⟨fun i hi => absurd hi (Nat.not_lt_zero i), Nat.le_refl 0, fun i hi => absurd hi (Nat.not_lt_zero i)⟩, fun r hr => absurd hr (Nat.not_lt_zero r), ⟨by decide, by decide, by decide, fun j hj => absurd hj (Nat.not_lt_zero j), fun j hj => rfl⟩, fun i hi => absurd hi (Nat.not_lt_zero i)⟩
