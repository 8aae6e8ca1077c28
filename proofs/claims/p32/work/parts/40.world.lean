-- THE STATE OF BOTH SIDES: counts and indices, numbers, torn bars, links
-- nats: 0 counts (0 lines, 1 rigs, 2 nets, 3 carriers, 4 crossings), 1 a rig's line, 2 parts, 3 pattern, 4 at, 5 rows, 6 columns
-- ints: 0 kind 1 hand 2 length 3 strength 4 weight 5 torque 6 damage 7 state 8 yarns 9 fibre strength 10 fibre length 11 friction 12 overs
abbrev St : Type := (Nat → Nat → Nat) × (Nat → Nat → Int32) × (Nat → Nat → Bool) × (Nat → Nat → Option Nat)
abbrev St.nl (S : St) : Nat := S.1 0 0
abbrev St.nr (S : St) : Nat := S.1 0 1
abbrev St.nn (S : St) : Nat := S.1 0 2
abbrev St.ca (S : St) : Nat := S.1 0 3
abbrev St.cr (S : St) : Nat := S.1 0 4
abbrev St.i (S : St) (f k : Nat) : Int32 := S.2.1 f k
abbrev St.tn (S : St) (n : Nat) : Nat → Bool := S.2.2.1 n
abbrev St.lk (S : St) (f k : Nat) : Option Nat := S.2.2.2 f k
def stI (S : St) (f i : Nat) (v : Int32) : St := (S.1, (fun f2 i2 => if f2 = f ∧ i2 = i then v else S.2.1 f2 i2), S.2.2)
def stN (S : St) (f i : Nat) (v : Nat) : St := ((fun f2 i2 => if f2 = f ∧ i2 = i then v else S.1 f2 i2), S.2)
def stT (S : St) (n : Nat) (tb : Nat → Bool) : St := (S.1, S.2.1, (fun n2 => if n2 = n then tb else S.2.2.1 n2), S.2.2.2)
-- addresses: B k i: 0 fibres, 1 lines, 2 rigs, 3 nets, 4 their rows of bars, 5 the rest (0 the object, 1..4 rows of fibres, lines, rigs, nets, 5 the braid, 6..9 its rows, 10 the mender, 11..13 its rows)
abbrev Bk : Type := Nat → Nat → Nat
def vld (S : St) (k i : Nat) : Prop := (k = 0 ∧ i < 4) ∨ (k = 1 ∧ i < S.nl) ∨ (k = 2 ∧ i < S.nr) ∨ (k = 3 ∧ i < S.nn) ∨ (k = 4 ∧ i < S.nn) ∨ (k = 5 ∧ i < 14)
def own (B : Bk) (S : St) (a : Nat) : Prop := ∃ k i, vld S k i ∧ a = B k i
def injB (B : Bk) (S : St) : Prop := ∀ k i k2 i2, vld S k i → vld S k2 i2 → B k i = B k2 i2 → k = k2 ∧ i = i2
def lineL (B : Bk) (S : St) (i : Nat) : List Value := [.int (S.i 0 i), .int (S.i 1 i), .int (S.i 2 i), .int (S.i 3 i), .int (S.i 4 i), .int (S.i 5 i), .int (S.i 6 i), .int (S.i 7 i), va_rf ((S.lk 0 i).map (B 1)), va_rf ((S.lk 1 i).map (B 1)), va_rf ((S.lk 2 i).map (B 1))]
def rigL (B : Bk) (S : St) (i : Nat) : List Value := [.ref (B 1 (S.1 1 i)), .int (nI (S.1 2 i)), .int (S.i 11 i)]
def netL (B : Bk) (S : St) (i : Nat) : List Value := [.int (nI (S.1 5 i)), .int (nI (S.1 6 i)), .ref (B 4 i), .int (nI (cntB (S.tn i) 100))]
def objL (B : Bk) (S : St) : List Value := [.ref (B 5 1), .ref (B 5 2), .int (nI S.nl), .ref (B 5 3), .int (nI S.nr), .ref (B 5 5), .ref (B 5 4), .int (nI S.nn), .ref (B 5 10)]
def rowO (B : Bk) (k n : Nat) (f : Nat → Option Nat) (N : Nat) : Prop := ∀ i, i < N → f i = if i < n then some (B k i) else none
def CWo (B : Bk) (S : St) (g : HP) : Prop := g (B 5 0) = some (hO 6 (objL B S))
def CWf (B : Bk) (S : St) (g : HP) : Prop := (∃ f, g (B 5 1) = some (hR 3 4 f) ∧ rowO B 0 4 f 4) ∧ ∀ i, i < 4 → g (B 0 i) = some (hO 1 [.int (S.i 9 i), .int (S.i 10 i)])
def CWl (B : Bk) (S : St) (g : HP) : Prop := (∃ f, g (B 5 2) = some (hR 4 60 f) ∧ rowO B 1 S.nl f 60) ∧ ∀ i, i < S.nl → g (B 1 i) = some (hO 2 (lineL B S i))
def CWr (B : Bk) (S : St) (g : HP) : Prop := (∃ f, g (B 5 3) = some (hR 5 12 f) ∧ rowO B 2 S.nr f 12) ∧ ∀ i, i < S.nr → g (B 2 i) = some (hO 5 (rigL B S i))
def CWn (B : Bk) (S : St) (g : HP) : Prop := (∃ f, g (B 5 4) = some (hR 6 5 f) ∧ rowO B 3 S.nn f 5) ∧ (∀ i, i < S.nn → g (B 3 i) = some (hO 4 (netL B S i))) ∧ ∀ i, i < S.nn → ∃ f, g (B 4 i) = some (hI 2 100 f) ∧ ∀ j, j < 100 → f j = bI (S.tn i j)
def CWb (B : Bk) (S : St) (g : HP) : Prop := g (B 5 5) = some (hO 0 [.int (nI S.ca), .int (nI S.cr), .ref (B 5 6), .ref (B 5 7), .ref (B 5 8), .ref (B 5 9)]) ∧ (∃ f, g (B 5 6) = some (hI 0 8 f) ∧ ∀ j, j < 8 → f j = nI (S.1 4 j)) ∧ (∃ f, g (B 5 7) = some (hI 0 8 f)) ∧ (∃ f, g (B 5 8) = some (hI 0 60 f) ∧ ∀ j, j < S.cr → f j = nI (S.1 3 j)) ∧ (∃ f, g (B 5 9) = some (hI 0 64 f) ∧ ∀ j, j < 64 → f j = S.i 12 j)
def CWm (B : Bk) (g : HP) : Prop := ∃ L V Q, MD (B 5 10) (B 5 11) (B 5 12) (B 5 13) L V Q g
def szS (S : St) : Prop := S.nl ≤ 60 ∧ S.nr ≤ 12 ∧ S.nn ≤ 5 ∧ 3 ≤ S.ca ∧ S.ca ≤ 8 ∧ S.cr ≤ 60 ∧ (∀ f i j, i < S.nl → S.lk f i = some j → j < S.nl) ∧ ∀ r, r < S.nr → S.1 1 r < S.nl
def CW (B : Bk) (S : St) (g : HP) : Prop := CWo B S g ∧ CWf B S g ∧ CWl B S g ∧ CWr B S g ∧ CWn B S g ∧ CWb B S g ∧ CWm B g ∧ injB B S ∧ szS S
theorem v5 {S : St} {i : Nat} (h : i < 14) : vld S 5 i := by unfold vld; omega
theorem v0 {S : St} {i : Nat} (h : i < 4) : vld S 0 i := by unfold vld; omega
theorem v1 {S : St} {i : Nat} (h : i < S.nl) : vld S 1 i := Or.inr (Or.inl ⟨rfl, h⟩)
theorem v2 {S : St} {i : Nat} (h : i < S.nr) : vld S 2 i := Or.inr (Or.inr (Or.inl ⟨rfl, h⟩))
theorem v3 {S : St} {i : Nat} (h : i < S.nn) : vld S 3 i := Or.inr (Or.inr (Or.inr (Or.inl ⟨rfl, h⟩)))
theorem v4 {S : St} {i : Nat} (h : i < S.nn) : vld S 4 i := Or.inr (Or.inr (Or.inr (Or.inr (Or.inl ⟨rfl, h⟩))))
theorem own_v {B : Bk} {S : St} {k i : Nat} (h : vld S k i) : own B S (B k i) := ⟨k, i, h, rfl⟩
-- whoever leaves the class's addresses alone keeps its world
theorem MD.keep {a il ir qu : Nat} {L V : Nat → Bool} {Q : Nat → Nat} {g g2 : HP} (h : MD a il ir qu L V Q g) (h0 : g2 a = g a) (h1 : g2 il = g il) (h2 : g2 ir = g ir) (h3 : g2 qu = g qu) : MD a il ir qu L V Q g2 := by
  obtain ⟨k1, k2, k3, k4, k5⟩ := h
  exact ⟨by rw [h0]; exact k1, by rw [h1]; exact k2, by rw [h2]; exact k3, by rw [h3]; exact k4, k5⟩
theorem CWo.keep {B : Bk} {S : St} {g g2 : HP} (hk : ∀ k i, vld S k i → g2 (B k i) = g (B k i)) (h : CWo B S g) : CWo B S g2 := by
  unfold CWo; rw [hk 5 0 (v5 (by decide))]; exact h
theorem CWf.keep {B : Bk} {S : St} {g g2 : HP} (hk : ∀ k i, vld S k i → g2 (B k i) = g (B k i)) (h : CWf B S g) : CWf B S g2 :=
  ⟨by rw [hk 5 1 (v5 (by decide))]; exact h.1, fun i hi => by rw [hk 0 i (v0 hi)]; exact h.2 i hi⟩
theorem CWl.keep {B : Bk} {S : St} {g g2 : HP} (hk : ∀ k i, vld S k i → g2 (B k i) = g (B k i)) (h : CWl B S g) : CWl B S g2 :=
  ⟨by rw [hk 5 2 (v5 (by decide))]; exact h.1, fun i hi => by rw [hk 1 i (v1 hi)]; exact h.2 i hi⟩
theorem CWr.keep {B : Bk} {S : St} {g g2 : HP} (hk : ∀ k i, vld S k i → g2 (B k i) = g (B k i)) (h : CWr B S g) : CWr B S g2 :=
  ⟨by rw [hk 5 3 (v5 (by decide))]; exact h.1, fun i hi => by rw [hk 2 i (v2 hi)]; exact h.2 i hi⟩
theorem CWn.keep {B : Bk} {S : St} {g g2 : HP} (hk : ∀ k i, vld S k i → g2 (B k i) = g (B k i)) (h : CWn B S g) : CWn B S g2 :=
  ⟨by rw [hk 5 4 (v5 (by decide))]; exact h.1, fun i hi => by rw [hk 3 i (v3 hi)]; exact h.2.1 i hi, fun i hi => by rw [hk 4 i (v4 hi)]; exact h.2.2 i hi⟩
theorem CWb.keep {B : Bk} {S : St} {g g2 : HP} (hk : ∀ k i, vld S k i → g2 (B k i) = g (B k i)) (h : CWb B S g) : CWb B S g2 :=
  ⟨by rw [hk 5 5 (v5 (by decide))]; exact h.1, by rw [hk 5 6 (v5 (by decide))]; exact h.2.1, by rw [hk 5 7 (v5 (by decide))]; exact h.2.2.1, by rw [hk 5 8 (v5 (by decide))]; exact h.2.2.2.1, by rw [hk 5 9 (v5 (by decide))]; exact h.2.2.2.2⟩
theorem CWm.keep {B : Bk} {g g2 : HP} (hk : ∀ i, 10 ≤ i → i < 14 → g2 (B 5 i) = g (B 5 i)) (h : CWm B g) : CWm B g2 := by
  obtain ⟨L, V, Q, h⟩ := h
  exact ⟨L, V, Q, h.keep (hk 10 (by decide) (by decide)) (hk 11 (by decide) (by decide)) (hk 12 (by decide) (by decide)) (hk 13 (by decide) (by decide))⟩
theorem CW.keep {B : Bk} {S : St} {g g2 : HP} (hk : ∀ a, own B S a → g2 a = g a) (h : CW B S g) : CW B S g2 := by
  have hk2 : ∀ k i, vld S k i → g2 (B k i) = g (B k i) := fun k i hv => hk _ (own_v hv)
  obtain ⟨h1, h2, h3, h4, h5, h6, h7, h8, h9⟩ := h
  exact ⟨h1.keep hk2, h2.keep hk2, h3.keep hk2, h4.keep hk2, h5.keep hk2, h6.keep hk2, h7.keep (fun i _ hi => hk2 5 i (v5 hi)), h8, h9⟩
theorem CW.alloc {B : Bk} {S : St} {g : HP} (h : CW B S g) : ∀ a, own B S a → ∃ o, g a = some o := by
  obtain ⟨h1, ⟨⟨_, a1, -⟩, h2⟩, ⟨⟨_, a2, -⟩, h3⟩, ⟨⟨_, a3, -⟩, h4⟩, ⟨⟨_, a4, -⟩, h5, h5b⟩, ⟨b1, ⟨_, b2, -⟩, ⟨_, b3⟩, ⟨_, b4, -⟩, ⟨_, b5, -⟩⟩, ⟨_, _, _, c1, ⟨_, c2, -⟩, ⟨_, c3, -⟩, ⟨_, c4, -⟩, -⟩, -, -⟩ := h
  rintro a ⟨k, i, hv, rfl⟩
  rcases hv with ⟨rfl, hi⟩ | ⟨rfl, hi⟩ | ⟨rfl, hi⟩ | ⟨rfl, hi⟩ | ⟨rfl, hi⟩ | ⟨rfl, hi⟩
  · exact ⟨_, h2 i hi⟩
  · exact ⟨_, h3 i hi⟩
  · exact ⟨_, h4 i hi⟩
  · exact ⟨_, h5 i hi⟩
  · obtain ⟨f, hf, -⟩ := h5b i hi
    exact ⟨_, hf⟩
  · have : i = 0 ∨ i = 1 ∨ i = 2 ∨ i = 3 ∨ i = 4 ∨ i = 5 ∨ i = 6 ∨ i = 7 ∨ i = 8 ∨ i = 9 ∨ i = 10 ∨ i = 11 ∨ i = 12 ∨ i = 13 := by omega
    rcases this with rfl | rfl | rfl | rfl | rfl | rfl | rfl | rfl | rfl | rfl | rfl | rfl | rfl | rfl
    · exact ⟨_, h1⟩
    · exact ⟨_, a1⟩
    · exact ⟨_, a2⟩
    · exact ⟨_, a3⟩
    · exact ⟨_, a4⟩
    · exact ⟨_, b1⟩
    · exact ⟨_, b2⟩
    · exact ⟨_, b3⟩
    · exact ⟨_, b4⟩
    · exact ⟨_, b5⟩
    · exact ⟨_, c1⟩
    · exact ⟨_, c2⟩
    · exact ⟨_, c3⟩
    · exact ⟨_, c4⟩
theorem CW.fresh {B : Bk} {S : St} {g : HP} (h : CW B S g) {q : Nat} (hq : g q = none) : ¬ own B S q := fun ho => by
  obtain ⟨o, h1⟩ := h.alloc q ho
  rw [hq] at h1
  cases h1
theorem CW.new {B : Bk} {S : St} {g : HP} (h : CW B S g) {q : Nat} {o : HObj} (hq : ¬ own B S q) : CW B S (hup g q o) :=
  h.keep (fun a ha => hup_n (fun e => hq (by rw [← e]; exact ha)))
-- what a call of the class does to the rest of the heap
def StpC (B : Bk) (S : St) (B2 : Bk) (S2 : St) (g g2 : HP) : Prop := (∀ a, g a ≠ none → ¬ own B S a → g2 a = g a) ∧ ∀ a, own B2 S2 a → own B S a ∨ g a = none
-- the parts one by one, from one state to the next
theorem CWo.tr {B B2 : Bk} {S S2 : St} {g g2 : HP} (hB : B2 5 = B 5) (hs : S2.1 0 0 = S.1 0 0 ∧ S2.1 0 1 = S.1 0 1 ∧ S2.1 0 2 = S.1 0 2) (hk : g2 (B 5 0) = g (B 5 0)) (h : CWo B S g) : CWo B2 S2 g2 := by
  unfold CWo objL St.nl St.nr St.nn at h ⊢
  rw [hB, hk, hs.1, hs.2.1, hs.2.2]
  exact h
theorem CWf.tr {B B2 : Bk} {S S2 : St} {g g2 : HP} (hB : B2 5 = B 5) (hB0 : B2 0 = B 0) (hs : S2.2.1 9 = S.2.1 9 ∧ S2.2.1 10 = S.2.1 10) (hk1 : g2 (B 5 1) = g (B 5 1)) (hk : ∀ i, i < 4 → g2 (B 0 i) = g (B 0 i)) (h : CWf B S g) : CWf B2 S2 g2 := by
  unfold CWf rowO St.i at h ⊢
  rw [hB, hB0, hk1, hs.1, hs.2]
  exact ⟨h.1, fun i hi => by rw [hk i hi]; exact h.2 i hi⟩
theorem CWl.tr {B B2 : Bk} {S S2 : St} {g g2 : HP} (hB : B2 5 = B 5) (hB1 : ∀ i, i < S.1 0 0 → B2 1 i = B 1 i) (hs0 : S2.1 0 0 = S.1 0 0) (hs : ∀ f, f < 8 → S2.2.1 f = S.2.1 f) (hs3 : S2.2.2.2 = S.2.2.2) (hlk : ∀ f i j, i < S.1 0 0 → S.2.2.2 f i = some j → j < S.1 0 0) (hk2 : g2 (B 5 2) = g (B 5 2)) (hk : ∀ i, i < S.1 0 0 → g2 (B 1 i) = g (B 1 i)) (h : CWl B S g) : CWl B2 S2 g2 := by
  obtain ⟨⟨f, h1, h2⟩, h3⟩ := h
  refine ⟨⟨f, by rw [hB, hk2]; exact h1, fun i hi => ?_⟩, fun i hi => ?_⟩
  · rw [h2 i hi]
    unfold St.nl
    rw [hs0]
    split
    · next hlt => rw [hB1 i hlt]
    · rfl
  · have hi : i < S.1 0 0 := by unfold St.nl at hi; rw [hs0] at hi; exact hi
    rw [hB1 i hi, hk i hi, h3 i hi]
    have hm : ∀ f, (S2.lk f i).map (B2 1) = (S.lk f i).map (B 1) := fun f => by
      unfold St.lk
      rw [hs3]
      cases hz : S.2.2.2 f i with
      | none => rfl
      | some j => simp only [Option.map_some]; rw [hB1 j (hlk f i j hi hz)]
    unfold lineL
    rw [hm, hm, hm]
    unfold St.i
    rw [hs 0 (by decide), hs 1 (by decide), hs 2 (by decide), hs 3 (by decide), hs 4 (by decide), hs 5 (by decide), hs 6 (by decide), hs 7 (by decide)]
theorem CWr.tr {B B2 : Bk} {S S2 : St} {g g2 : HP} (hB : B2 5 = B 5) (hB1 : ∀ i, i < S.1 0 0 → B2 1 i = B 1 i) (hB2 : ∀ i, i < S.1 0 1 → B2 2 i = B 2 i) (hs0 : S2.1 0 1 = S.1 0 1) (hs : S2.1 1 = S.1 1 ∧ S2.1 2 = S.1 2 ∧ S2.2.1 11 = S.2.1 11) (hrl : ∀ r, r < S.1 0 1 → S.1 1 r < S.1 0 0) (hk3 : g2 (B 5 3) = g (B 5 3)) (hk : ∀ i, i < S.1 0 1 → g2 (B 2 i) = g (B 2 i)) (h : CWr B S g) : CWr B2 S2 g2 := by
  obtain ⟨⟨f, h1, h2⟩, h3⟩ := h
  refine ⟨⟨f, by rw [hB, hk3]; exact h1, fun i hi => ?_⟩, fun i hi => ?_⟩
  · rw [h2 i hi]
    unfold St.nr
    rw [hs0]
    split
    · next hlt => rw [hB2 i hlt]
    · rfl
  · have hi : i < S.1 0 1 := by unfold St.nr at hi; rw [hs0] at hi; exact hi
    rw [hB2 i hi, hk i hi, h3 i hi]
    unfold rigL St.i
    rw [hs.1, hs.2.1, hs.2.2, hB1 _ (hrl i hi)]
theorem CWn.tr {B B2 : Bk} {S S2 : St} {g g2 : HP} (hB : B2 5 = B 5) (hB3 : ∀ i, i < S.1 0 2 → B2 3 i = B 3 i) (hB4 : ∀ i, i < S.1 0 2 → B2 4 i = B 4 i) (hs0 : S2.1 0 2 = S.1 0 2) (hs : S2.1 5 = S.1 5 ∧ S2.1 6 = S.1 6 ∧ S2.2.2.1 = S.2.2.1) (hk4 : g2 (B 5 4) = g (B 5 4)) (hk : ∀ i, i < S.1 0 2 → g2 (B 3 i) = g (B 3 i) ∧ g2 (B 4 i) = g (B 4 i)) (h : CWn B S g) : CWn B2 S2 g2 := by
  obtain ⟨⟨f, h1, h2⟩, h3, h4⟩ := h
  have hlt : ∀ {i}, i < S2.nn → i < S.1 0 2 := fun hi => by unfold St.nn at hi; rw [hs0] at hi; exact hi
  refine ⟨⟨f, by rw [hB, hk4]; exact h1, fun i hi => ?_⟩, fun i hi => ?_, fun i hi => ?_⟩
  · rw [h2 i hi]
    unfold St.nn
    rw [hs0]
    split
    · next hlt => rw [hB3 i hlt]
    · rfl
  · have hi := hlt hi
    rw [hB3 i hi, (hk i hi).1, h3 i hi]
    unfold netL St.tn
    rw [hs.1, hs.2.1, hs.2.2, hB4 i hi]
  · have hi := hlt hi
    obtain ⟨f, h5, h6⟩ := h4 i hi
    exact ⟨f, by rw [hB4 i hi, (hk i hi).2]; exact h5, fun j hj => by unfold St.tn; rw [hs.2.2]; exact h6 j hj⟩
theorem CWb.tr {B B2 : Bk} {S S2 : St} {g g2 : HP} (hB : B2 5 = B 5) (hs : S2.1 0 3 = S.1 0 3 ∧ S2.1 0 4 = S.1 0 4 ∧ S2.1 3 = S.1 3 ∧ S2.1 4 = S.1 4 ∧ S2.2.1 12 = S.2.1 12) (hk : ∀ i, 5 ≤ i → i < 10 → g2 (B 5 i) = g (B 5 i)) (h : CWb B S g) : CWb B2 S2 g2 := by
  unfold CWb St.ca St.cr St.i at h ⊢
  rw [hB, hs.1, hs.2.1, hs.2.2.1, hs.2.2.2.1, hs.2.2.2.2, hk 5 (by decide) (by decide), hk 6 (by decide) (by decide), hk 7 (by decide) (by decide), hk 8 (by decide) (by decide), hk 9 (by decide) (by decide)]
  exact h
theorem CWm.tr {B B2 : Bk} {g g2 : HP} (hB : B2 5 = B 5) (hk : ∀ i, 10 ≤ i → i < 14 → g2 (B 5 i) = g (B 5 i)) (h : CWm B g) : CWm B2 g2 := by
  have := h.keep hk
  unfold CWm at this ⊢
  rw [hB]
  exact this
theorem vld_eq {S S2 : St} (h : S2.1 0 0 = S.1 0 0 ∧ S2.1 0 1 = S.1 0 1 ∧ S2.1 0 2 = S.1 0 2) (k i : Nat) : vld S2 k i ↔ vld S k i := by
  unfold vld St.nl St.nr St.nn
  rw [h.1, h.2.1, h.2.2]
theorem injB_eq {B : Bk} {S S2 : St} (h : S2.1 0 0 = S.1 0 0 ∧ S2.1 0 1 = S.1 0 1 ∧ S2.1 0 2 = S.1 0 2) (hi : injB B S) : injB B S2 :=
  fun a b c d hv1 hv2 e => hi a b c d ((vld_eq h a b).mp hv1) ((vld_eq h c d).mp hv2) e
-- cells that are not of the line i (the fibre i ..)
theorem hup_ow {B : Bk} {S : St} (hi : injB B S) {g : HP} {k i k2 i2 : Nat} {o : HObj} (hv : vld S k i) (hv2 : vld S k2 i2) (hne : k2 ≠ k ∨ i2 ≠ i) : hup g (B k i) o (B k2 i2) = g (B k2 i2) :=
  hup_n (fun e => by
    obtain ⟨e1, e2⟩ := hi k2 i2 k i hv2 hv e
    rcases hne with q | q
    · exact q e1
    · exact q e2)
-- a line is written
theorem CW.line {B : Bk} {S S2 : St} {g : HP} {i : Nat} (h : CW B S g) (hi : i < S.nl) (hn : S2.1 = S.1) (hr : S2.2.2 = S.2.2) (hf : ∀ f j, (j ≠ i ∨ 8 ≤ f) → S2.2.1 f j = S.2.1 f j) : CW B S2 (hup g (B 1 i) (hO 2 (lineL B S2 i))) := by
  obtain ⟨h1, h2, h3, h4, h5, h6, h7, h8, h9⟩ := h
  have hk : ∀ k2 i2, vld S k2 i2 → (k2 ≠ 1 ∨ i2 ≠ i) → hup g (B 1 i) (hO 2 (lineL B S2 i)) (B k2 i2) = g (B k2 i2) := fun k2 i2 hv hne => hup_ow h8 (v1 hi) hv hne
  have h5k : ∀ j, j < 14 → hup g (B 1 i) (hO 2 (lineL B S2 i)) (B 5 j) = g (B 5 j) := fun j hj => hk 5 j (v5 hj) (Or.inl (by decide))
  have hf8 : ∀ f, 8 ≤ f → S2.2.1 f = S.2.1 f := fun f hf8 => funext fun j => hf f j (Or.inr hf8)
  refine ⟨h1.tr rfl ⟨by rw [hn], by rw [hn], by rw [hn]⟩ (h5k 0 (by decide)), h2.tr rfl rfl ⟨hf8 9 (by decide), hf8 10 (by decide)⟩ (h5k 1 (by decide)) (fun j hj => hk 0 j (v0 hj) (Or.inl (by decide))), ?_, h4.tr rfl (fun _ _ => rfl) (fun _ _ => rfl) (by rw [hn]) ⟨by rw [hn], by rw [hn], hf8 11 (by decide)⟩ h9.2.2.2.2.2.2.2 (h5k 3 (by decide)) (fun j hj => hk 2 j (v2 hj) (Or.inl (by decide))), h5.tr rfl (fun _ _ => rfl) (fun _ _ => rfl) (by rw [hn]) ⟨by rw [hn], by rw [hn], by rw [hr]⟩ (h5k 4 (by decide)) (fun j hj => ⟨hk 3 j (v3 hj) (Or.inl (by decide)), hk 4 j (v4 hj) (Or.inl (by decide))⟩), h6.tr rfl ⟨by rw [hn], by rw [hn], by rw [hn], by rw [hn], hf8 12 (by decide)⟩ (fun j _ hj => h5k j (by omega)), h7.tr rfl (fun j _ hj => h5k j hj), injB_eq ⟨by rw [hn], by rw [hn], by rw [hn]⟩ h8, ?_⟩
  · have hlk : ∀ f k, S2.lk f k = S.lk f k := fun f k => by unfold St.lk; rw [hr]
    unfold CWl St.nl at h3 ⊢
    rw [hn]
    refine ⟨by rw [h5k 2 (by decide)]; exact h3.1, fun j hj => ?_⟩
    by_cases e : j = i
    · rw [e]; exact hup_s
    · rw [hk 1 j (v1 hj) (Or.inr e), h3.2 j hj]
      unfold lineL St.i
      rw [hf 0 j (Or.inl e), hf 1 j (Or.inl e), hf 2 j (Or.inl e), hf 3 j (Or.inl e), hf 4 j (Or.inl e), hf 5 j (Or.inl e), hf 6 j (Or.inl e), hf 7 j (Or.inl e), hlk, hlk, hlk]
  · unfold szS St.nl St.nr St.nn St.ca St.cr St.lk at h9 ⊢
    rw [hn, hr]
    exact h9
