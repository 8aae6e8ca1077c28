-- THE CLASS'S WORLD: what is added, what else is written
def bkS (B : Bk) (k n q : Nat) : Bk := fun k2 i => if k2 = k ∧ i = n then q else B k2 i
theorem bkS_o {B : Bk} {k n q k2 : Nat} (h : k2 ≠ k) : bkS B k n q k2 = B k2 := funext fun i => by unfold bkS; rw [if_neg (fun e => h e.1)]
theorem bkS_s {B : Bk} {k n q : Nat} : bkS B k n q k n = q := by unfold bkS; rw [if_pos ⟨rfl, rfl⟩]
theorem bkS_n {B : Bk} {k n q i : Nat} (h : i ≠ n) : bkS B k n q k i = B k i := by unfold bkS; rw [if_neg (fun e => h e.2)]
def newL (S : St) (v : Nat → Int32) (r : Nat → Option Nat) : St :=
  ((fun f i => if f = 0 ∧ i = 0 then S.1 0 0 + 1 else S.1 f i), (fun f i => if i = S.1 0 0 ∧ f < 9 then v f else S.2.1 f i), S.2.2.1, (fun f i => if i = S.1 0 0 then r f else S.2.2.2 f i))
def newR (S : St) (li pn : Nat) (fr : Int32) : St :=
  ((fun f i => if f = 0 ∧ i = 1 then S.1 0 1 + 1 else if f = 1 ∧ i = S.1 0 1 then li else if f = 2 ∧ i = S.1 0 1 then pn else S.1 f i), (fun f i => if f = 11 ∧ i = S.1 0 1 then fr else S.2.1 f i), S.2.2)
def newN (S : St) (rn cn : Nat) : St :=
  ((fun f i => if f = 0 ∧ i = 2 then S.1 0 2 + 1 else if f = 5 ∧ i = S.1 0 2 then rn else if f = 6 ∧ i = S.1 0 2 then cn else S.1 f i), S.2.1, (fun n => if n = S.1 0 2 then (fun _ => false) else S.2.2.1 n), S.2.2.2)
def vecL (B : Bk) (v : Nat → Int32) (r : Nat → Option Nat) : List Value := [.int (v 0), .int (v 1), .int (v 2), .int (v 3), .int (v 4), .int (v 5), .int (v 6), .int (v 7), va_rf ((r 0).map (B 1)), va_rf ((r 1).map (B 1)), va_rf ((r 2).map (B 1))]
theorem CW.addLine {B : Bk} {S : St} {g : HP} {q : Nat} {v : Nat → Int32} {r : Nat → Option Nat} {fl : Nat → Option Nat} (h : CW B S g) (hn : S.nl < 60) (hq : g q = some (hO 2 (vecL B v r))) (hqo : ¬ own B S q) (hr : ∀ f j, r f = some j → j < S.nl) (hfl : g (B 5 2) = some (hR 4 60 fl)) :
    CW (bkS B 1 S.nl q) (newL S v r) (hup (hup g (B 5 2) (hR 4 60 (va_up fl S.nl (some q)))) (B 5 0) (hO 6 (objL B (newL S v r)))) := by
  obtain ⟨h1, h2, h3, h4, h5, h6, h7, h8, h9⟩ := h
  unfold St.nl at hn hr ⊢
  obtain ⟨n, hnn⟩ : ∃ n, n = S.1 0 0 := ⟨_, rfl⟩
  rw [← hnn] at hn hr ⊢
  obtain ⟨o1, ho1⟩ : ∃ z, z = hR 4 60 (va_up fl n (some q)) := ⟨_, rfl⟩
  obtain ⟨o2, ho2⟩ : ∃ z, z = hO 6 (objL B (newL S v r)) := ⟨_, rfl⟩
  rw [← ho1, ← ho2]
  have hne : B 5 0 ≠ B 5 2 := fun e => by have := h8 5 0 5 2 (v5 (by decide)) (v5 (by decide)) e; omega
  have hk : ∀ k i, vld S k i → (k ≠ 5 ∨ (i ≠ 0 ∧ i ≠ 2)) → hup (hup g (B 5 2) o1) (B 5 0) o2 (B k i) = g (B k i) := fun k i hv hne => by
    rw [hup_ow h8 (v5 (by decide)) hv (by omega), hup_ow h8 (v5 (by decide)) hv (by omega)]
  have hq0 : ∀ k i, vld S k i → q ≠ B k i := fun k i hv e => hqo ⟨k, i, hv, e⟩
  have hgq : hup (hup g (B 5 2) o1) (B 5 0) o2 q = some (hO 2 (vecL B v r)) := by rw [hup_n (hq0 5 0 (v5 (by decide))), hup_n (hq0 5 2 (v5 (by decide)))]; exact hq
  have hB5 : bkS B 1 n q 5 = B 5 := bkS_o (by decide)
  have hB1 : ∀ i, i < S.1 0 0 → bkS B 1 n q 1 i = B 1 i := fun i hi => bkS_n (by omega)
  have hl9 := h9.2.2.2.2.2.2.1
  have hr9 := h9.2.2.2.2.2.2.2
  unfold St.nl St.lk at hl9
  unfold St.nl St.nr at hr9
  refine ⟨?_, h2.tr hB5 (bkS_o (by decide)) ⟨funext fun i => ?_, funext fun i => ?_⟩ (hk 5 1 (v5 (by decide)) (by omega)) (fun i hi => hk 0 i (v0 hi) (by omega)), ?_, h4.tr hB5 hB1 (fun i _ => by rw [bkS_o (by decide)]) ?_ ⟨?_, ?_, ?_⟩ hr9 (hk 5 3 (v5 (by decide)) (by omega)) (fun i hi => hk 2 i (v2 hi) (by omega)), h5.tr hB5 (fun i _ => by rw [bkS_o (by decide)]) (fun i _ => by rw [bkS_o (by decide)]) ?_ ⟨?_, ?_, rfl⟩ (hk 5 4 (v5 (by decide)) (by omega)) (fun i hi => ⟨hk 3 i (v3 hi) (by omega), hk 4 i (v4 hi) (by omega)⟩), h6.tr hB5 ⟨?_, ?_, ?_, ?_, ?_⟩ (fun i h5 hi => hk 5 i (v5 (by omega)) (by omega)), h7.tr hB5 (fun i h5 hi => hk 5 i (v5 (by omega)) (by omega)), ?_, ?_⟩
  · show hup (hup g (B 5 2) o1) (B 5 0) o2 (bkS B 1 n q 5 0) = some (hO 6 (objL (bkS B 1 n q) (newL S v r)))
    rw [hB5, hup_s, ho2]
    unfold objL
    rw [hB5]
  · show (if i = S.1 0 0 ∧ 9 < 9 then v 9 else S.2.1 9 i) = S.2.1 9 i
    rw [if_neg (by omega)]
  · show (if i = S.1 0 0 ∧ 10 < 9 then v 10 else S.2.1 10 i) = S.2.1 10 i
    rw [if_neg (by omega)]
  · refine ⟨⟨va_up fl n (some q), ?_, fun i hi => ?_⟩, fun i hi => ?_⟩
    · rw [hB5, hup_ow h8 (v5 (by decide)) (v5 (by decide)) (by omega), hup_s, ho1]
    · show (if i = n then some q else fl i) = if i < S.1 0 0 + 1 then some (bkS B 1 n q 1 i) else none
      obtain ⟨⟨f9, h10, h11⟩, -⟩ := h3
      rw [hfl] at h10
      have e9 : fl = f9 := by
        have := Option.some.inj h10
        unfold hR at this
        simpa using this
      by_cases e : i = n
      · rw [if_pos e, if_pos (by omega), e, bkS_s]
      · rw [if_neg e, e9, h11 i hi]
        unfold St.nl
        by_cases e2 : i < S.1 0 0
        · rw [if_pos e2, if_pos (by omega), bkS_n e]
        · rw [if_neg e2, if_neg (by omega)]
    · have hi : i < S.1 0 0 + 1 := hi
      have hlk : ∀ f, i < n → ((newL S v r).lk f i).map (bkS B 1 n q 1) = (S.lk f i).map (B 1) := fun f hi => by
        show (if i = S.1 0 0 then r f else S.2.2.2 f i).map _ = (S.2.2.2 f i).map _
        rw [if_neg (by omega)]
        cases hz : S.2.2.2 f i with
        | none => rfl
        | some j => simp only [Option.map_some]; rw [hB1 j (hl9 f i j (by omega) hz)]
      by_cases e : i = n
      · rw [e, bkS_s, hgq]
        unfold lineL vecL
        have hiv : ∀ f, f < 9 → (newL S v r).i f n = v f := fun f hf => by
          show (if n = S.1 0 0 ∧ f < 9 then v f else S.2.1 f n) = v f
          rw [if_pos ⟨hnn, hf⟩]
        have hlv : ∀ f, ((newL S v r).lk f n).map (bkS B 1 n q 1) = (r f).map (B 1) := fun f => by
          show (if n = S.1 0 0 then r f else S.2.2.2 f n).map _ = _
          rw [if_pos hnn]
          cases hz : r f with
          | none => rfl
          | some j => simp only [Option.map_some]; rw [hB1 j (by have := hr f j hz; omega)]
        rw [hlv, hlv, hlv, hiv 0 (by decide), hiv 1 (by decide), hiv 2 (by decide), hiv 3 (by decide), hiv 4 (by decide), hiv 5 (by decide), hiv 6 (by decide), hiv 7 (by decide)]
      · have hi2 : i < n := by omega
        rw [bkS_n e, hk 1 i (v1 (by unfold St.nl; omega)) (by omega), h3.2 i (by unfold St.nl; omega)]
        unfold lineL
        have hiv : ∀ f, (newL S v r).i f i = S.i f i := fun f => by
          show (if i = S.1 0 0 ∧ f < 9 then v f else S.2.1 f i) = S.2.1 f i
          rw [if_neg (by omega)]
        rw [hlk 0 hi2, hlk 1 hi2, hlk 2 hi2, hiv, hiv, hiv, hiv, hiv, hiv, hiv, hiv]
  · show (if (0 : Nat) = 0 ∧ 1 = 0 then S.1 0 0 + 1 else S.1 0 1) = S.1 0 1
    rw [if_neg (by omega)]
  · exact funext fun i => by show (if 1 = 0 ∧ i = 0 then S.1 0 0 + 1 else S.1 1 i) = S.1 1 i; rw [if_neg (by omega)]
  · exact funext fun i => by show (if 2 = 0 ∧ i = 0 then S.1 0 0 + 1 else S.1 2 i) = S.1 2 i; rw [if_neg (by omega)]
  · exact funext fun i => by show (if i = S.1 0 0 ∧ 11 < 9 then v 11 else S.2.1 11 i) = S.2.1 11 i; rw [if_neg (by omega)]
  · show (if (0 : Nat) = 0 ∧ 2 = 0 then S.1 0 0 + 1 else S.1 0 2) = S.1 0 2
    rw [if_neg (by omega)]
  · exact funext fun i => by show (if 5 = 0 ∧ i = 0 then S.1 0 0 + 1 else S.1 5 i) = S.1 5 i; rw [if_neg (by omega)]
  · exact funext fun i => by show (if 6 = 0 ∧ i = 0 then S.1 0 0 + 1 else S.1 6 i) = S.1 6 i; rw [if_neg (by omega)]
  · show (if (0 : Nat) = 0 ∧ 3 = 0 then S.1 0 0 + 1 else S.1 0 3) = S.1 0 3
    rw [if_neg (by omega)]
  · show (if (0 : Nat) = 0 ∧ 4 = 0 then S.1 0 0 + 1 else S.1 0 4) = S.1 0 4
    rw [if_neg (by omega)]
  · exact funext fun i => by show (if 3 = 0 ∧ i = 0 then S.1 0 0 + 1 else S.1 3 i) = S.1 3 i; rw [if_neg (by omega)]
  · exact funext fun i => by show (if 4 = 0 ∧ i = 0 then S.1 0 0 + 1 else S.1 4 i) = S.1 4 i; rw [if_neg (by omega)]
  · exact funext fun i => by show (if i = S.1 0 0 ∧ 12 < 9 then v 12 else S.2.1 12 i) = S.2.1 12 i; rw [if_neg (by omega)]
  · have hv2 : ∀ k i, vld (newL S v r) k i → vld S k i ∨ (k = 1 ∧ i = n) := fun k i hv => by
      rcases hv with ⟨a, b⟩ | ⟨a, b⟩ | ⟨a, b⟩ | ⟨a, b⟩ | ⟨a, b⟩ | ⟨a, b⟩
      · exact Or.inl (Or.inl ⟨a, b⟩)
      · have b : i < S.1 0 0 + 1 := b
        by_cases e : i = n
        · exact Or.inr ⟨a, e⟩
        · exact Or.inl (by rw [a]; exact v1 (by unfold St.nl; omega))
      · exact Or.inl (by rw [a]; exact v2 b)
      · exact Or.inl (by rw [a]; exact v3 b)
      · exact Or.inl (by rw [a]; exact v4 b)
      · exact Or.inl (by rw [a]; exact v5 b)
    have hbk : ∀ k i, vld S k i → bkS B 1 n q k i = B k i := fun k i hv => by
      by_cases e : k = 1
      · rcases hv with ⟨a, b⟩ | ⟨a, b⟩ | ⟨a, b⟩ | ⟨a, b⟩ | ⟨a, b⟩ | ⟨a, b⟩ <;> try omega
        rw [e]
        exact bkS_n (by unfold St.nl at b; omega)
      · rw [bkS_o e]
    intro k i k2 i2 hv hw e
    rcases hv2 k i hv with hv | ⟨rfl, rfl⟩ <;> rcases hv2 k2 i2 hw with hw | ⟨rfl, rfl⟩
    · rw [hbk k i hv, hbk k2 i2 hw] at e
      exact h8 k i k2 i2 hv hw e
    · rw [hbk k i hv, bkS_s] at e
      exact absurd e.symm (hq0 k i hv)
    · rw [hbk k2 i2 hw, bkS_s] at e
      exact absurd e (hq0 k2 i2 hw)
    · exact ⟨rfl, rfl⟩
  · obtain ⟨z1, z2, z3, z4, z5, z6, z7, z8⟩ := h9
    refine ⟨by show S.1 0 0 + 1 ≤ 60; omega, z2, z3, z4, z5, z6, fun f i j hi hj => ?_, fun r9 hr2 => ?_⟩
    · have hi : i < S.1 0 0 + 1 := hi
      have hj : (if i = S.1 0 0 then r f else S.2.2.2 f i) = some j := hj
      show j < S.1 0 0 + 1
      by_cases e : i = S.1 0 0
      · rw [if_pos e] at hj
        have := hr f j hj
        omega
      · rw [if_neg e] at hj
        have := hl9 f i j (by omega) hj
        omega
    · show (if 1 = 0 ∧ r9 = 0 then S.1 0 0 + 1 else S.1 1 r9) < S.1 0 0 + 1
      rw [if_neg (by omega)]
      have := hr9 r9 hr2
      omega
-- the rest of the heap
theorem StpC.rf {B : Bk} {S : St} {g : HP} : StpC B S B S g g := ⟨fun _ _ _ => rfl, fun _ h => Or.inl h⟩
theorem StpC.own {B : Bk} {S : St} {B2 : Bk} {S2 : St} {g g2 : HP} {k i : Nat} {o : HObj} (h : StpC B S B2 S2 g g2) (hv : vld S k i) : StpC B S B2 S2 g (hup g2 (B k i) o) :=
  ⟨fun a h1 h2 => by rw [hup_n (fun e => h2 (by rw [e]; exact own_v hv))]; exact h.1 a h1 h2, h.2⟩
theorem StpC.new {B : Bk} {S : St} {B2 : Bk} {S2 : St} {g g2 : HP} {q : Nat} {o : HObj} (h : StpC B S B2 S2 g g2) (hq : g q = none) : StpC B S B2 S2 g (hup g2 q o) :=
  ⟨fun a h1 h2 => by rw [hup_n (fun e => h1 (by rw [e]; exact hq))]; exact h.1 a h1 h2, h.2⟩
theorem StpC.st {B : Bk} {S S1 : St} {B2 : Bk} {S2 : St} {g g2 : HP} (hc : S1.1 0 0 = S2.1 0 0 ∧ S1.1 0 1 = S2.1 0 1 ∧ S1.1 0 2 = S2.1 0 2) (h : StpC B S B2 S1 g g2) : StpC B S B2 S2 g g2 :=
  ⟨h.1, fun a ⟨k, i, hv, e⟩ => h.2 a ⟨k, i, (vld_eq hc k i).mpr hv, e⟩⟩
