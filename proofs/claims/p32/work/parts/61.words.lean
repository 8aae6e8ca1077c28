-- PURE WORDS that stood among the model's parts of whole
def tnM (S : St) (k : Nat) : Bool := decide (k / 220 < S.1 0 2) && (decide ((k % 220 / 22 + k % 22 / 2) % 2 = 0) && (if k % 2 = 1 then decide (k % 22 / 2 < 10) && S.2.2.1 (k / 220) (10 * (k % 220 / 22) + k % 22 / 2) else decide (1 ≤ k % 22 / 2) && S.2.2.1 (k / 220) (10 * (k % 220 / 22) + k % 22 / 2 - 1)))
-- CONTRACTS OF THE MODEL: order
def okStk (S : St) (ln : Int32) (x : Nat) : Prop := x < S.nl ∧ fitS S x ∧ ¬ S.i 2 x < ln
theorem stkN_ok {S : St} {kd ln : Int32} {i : Nat} {b : Option Nat} (h : ∀ x, b = some x → okStk S ln x) : ∀ x, stkN S kd ln i b = some x → okStk S ln x := fun x hx => by
  unfold stkN at hx
  split at hx
  · next hc => cases hx; exact ⟨hc.1, hc.2.2.1, hc.2.2.2.1⟩
  · exact h x hx
def bearA (S : St) (i : Nat) : Int32 := ((S.i 3 i).toInt64 * (1000 - S.i 6 i).toInt64 / 1000).toInt32
-- CONTRACTS OF THE MODEL: rig, pullFor
def bsF (C : Int32 → Int64) (ld : Int32) : Nat → Nat → Nat → Nat
  | 0, lo, _ => lo
  | f + 1, lo, hi => if lo < hi then (if C (nI ((lo + hi) / 2)) < ld.toInt64 then bsF C ld f ((lo + hi) / 2 + 1) hi else bsF C ld f lo ((lo + hi) / 2)) else lo
def bsS (S : St) (q : Nat) (L : Nat) : Nat := bsF (fun x => carL (S.i 11 q) (S.1 2 q) x.toInt64 0) (nI L) (L + 1) 0 L
-- CONTRACTS OF THE MODEL: orderOf
def itS (sg : Nat → Nat) : Nat → Nat → Nat
  | 0, p => p
  | m + 1, p => itS sg m (sg p)
def cntM2 (f : Nat → Bool) (b : Nat) : Nat → Nat
  | 0 => 0
  | n + 1 => cntM2 f b n + (if f (b + n) then 1 else 0)
-- THE MODEL'S BARS: one is torn
def tn3 (S : St) (n r c w : Nat) : Bool := decide (n < S.1 0 2) && (decide ((r + c) % 2 = 0) && (if w = 1 then decide (c < 10) && S.2.2.1 n (10 * r + c) else decide (1 ≤ c) && S.2.2.1 n (10 * r + c - 1)))
theorem tnM_3 {S : St} {k : Nat} : tnM S k = tn3 S (k / 220) (k % 220 / 22) (k % 22 / 2) (k % 2) := rfl
theorem rng_nn {a n : Nat} (ha : a < 2 ^ 30) (hn : n < 2 ^ 30) : rng (nI a) 0 (nI n) ↔ a ≤ n := by
  unfold rng
  rw [show ((nI n) < nI a) = (n < a) from propext (nI_ltI (by omega) (by omega))]
  refine ⟨fun h => by have := h.2; omega, fun h => ⟨nI_pos (by omega), by omega⟩⟩
-- CONTRACTS OF THE MODEL: upper, lower, part
def upK (k : Nat) : Nat := 11 * (k / 22) + k % 22 / 2
def loK (k : Nat) : Nat := if k % 2 = 1 then 11 * (k / 22 + 1) + k % 22 / 2 + 1 else 11 * (k / 22 + 1) + k % 22 / 2 - 1
def edF (T : Nat → Bool) (v : Nat) : Nat → Nat
  | 0 => 0
  | k + 1 => edF T v k + (if T k = true ∧ (upK k = v ∨ loK k = v) then 1 else 0)
def enM (T : Nat → Bool) (lab : Nat → Nat) (ro v : Nat) : Nat := if lab v = ro then edF T v 220 else 0
def odM (T : Nat → Bool) (lab : Nat → Nat) (ro : Nat) : Nat → Nat
  | 0 => 0
  | v + 1 => odM T lab ro v + enM T lab ro v % 2
def hsM (T : Nat → Bool) (lab : Nat → Nat) (ro : Nat) : Nat → Bool
  | 0 => false
  | v + 1 => hsM T lab ro v || decide (0 < enM T lab ro v)
def ptM (T : Nat → Bool) (lab : Nat → Nat) (ro : Nat) : Nat := if hsM T lab ro 121 = true then (if odM T lab ro 121 = 0 then 1 else odM T lab ro 121 / 2) else 0
def fwM (T : Nat → Bool) (lab : Nat → Nat) : Nat → Nat
  | 0 => 0
  | ro + 1 => fwM T lab ro + ptM T lab ro
-- CONTRACTS OF THE MODEL: fewest, twines, twinesAnew, mend
def clsM (T : Nat → Bool) (P : Nat → Prop) : Prop := ∀ k, k < 220 → T k = true → (P (upK k) ↔ P (loK k))
def labI (T : Nat → Bool) (lab : Nat → Nat) : Prop := ∀ v, v < 121 → lab v < 121 ∧ ∀ P : Nat → Prop, clsM T P → (P v ↔ P (lab v))
def labO (T : Nat → Bool) (lab : Nat → Nat) : Prop := labI T lab ∧ ∀ k, k < 220 → T k = true → lab (upK k) = lab (loK k)
def sumN (f : Nat → Nat) : Nat → Nat
  | 0 => 0
  | n + 1 => sumN f n + f n
theorem sumN_congr {f f2 : Nat → Nat} : ∀ {n : Nat}, (∀ v, v < n → f v = f2 v) → sumN f n = sumN f2 n
  | 0, _ => rfl
  | n + 1, h => by
    show sumN f n + f n = sumN f2 n + f2 n
    rw [sumN_congr (fun v hv => h v (by omega)), h n (by omega)]
theorem sumN_upd {f : Nat → Nat} {i x : Nat} : ∀ {n : Nat}, i < n → sumN (updN f i x) n + f i = sumN f n + x
  | 0, h => by omega
  | n + 1, h => by
    show sumN (updN f i x) n + updN f i x n + f i = sumN f n + f n + x
    by_cases e : i = n
    · subst e
      have : sumN (updN f i x) i = sumN f i := sumN_congr (fun v hv => by unfold updN; rw [if_neg (by omega)])
      rw [this]
      unfold updN
      rw [if_pos rfl]
      omega
    · have := sumN_upd (f := f) (i := i) (x := x) (n := n) (by omega)
      have e2 : updN f i x n = f n := by unfold updN; rw [if_neg (by omega)]
      omega
