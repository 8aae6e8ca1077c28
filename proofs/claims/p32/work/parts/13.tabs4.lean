theorem fR_cl : ∀ ci, ci < 7 → vwCl[ci]? = some (fR ci, fT ci, fN ci) := by
  intro ci h
  match ci, h with
  | 0, _ => rfl
  | 1, _ => rfl
  | 2, _ => rfl
  | 3, _ => rfl
  | 4, _ => rfl
  | 5, _ => rfl
  | 6, _ => rfl
theorem fTy_ok : ∀ ci, ci < 7 → ∀ k, k < fN ci → parseFieldDescriptor (fT ci k).2.2.1 = some (fTy ci k) := by
  intro ci h
  match ci, h with
  | 0, _ => exact tyX0_ok
  | 1, _ => exact tyX1_ok
  | 2, _ => exact tyX2_ok
  | 3, _ => exact tyX3_ok
  | 4, _ => exact tyX4_ok
  | 5, _ => exact tyX5_ok
  | 6, _ => exact tyX6_ok
theorem fNm_ok : ∀ ci, ci < 7 → ∀ a, a < fN ci → ∀ b, b < fN ci → a ≠ b → (fT ci a).2.1 ≠ (fT ci b).2.1 := by
  intro ci h
  match ci, h with
  | 0, _ => exact nmX0
  | 1, _ => exact nmX1
  | 2, _ => exact nmX2
  | 3, _ => exact nmX3
  | 4, _ => exact nmX4
  | 5, _ => exact nmX5
  | 6, _ => exact nmX6
/-- what a row of the method table must be -/
def okM (q : Nat × Nat × MInfo × Nat × String × Nat) : Bool :=
  decide (q.2.2.1.2.2.1 ≤ 41) && decide (q.2.2.1.1.cls ≠ "java/lang/invoke/MethodHandle") && decide (q.2.2.1.1.cls ≠ "java/lang/invoke/VarHandle") && decide ((parseMethodDescriptor q.2.2.1.1.desc).map (fun d => d.parameters.length) = some q.2.2.1.2.2.2.2.1) && (decide (q.2.2.2.1 = 5) == !(q.2.2.1.2.2.2.2.2.isEmpty)) && decide (q.2.2.2.1 ≤ 5) &&
  (match q.2.2.2.1 with
    | 0 => true
    | 1 => decide (q.2.2.2.2.2 < 7) && decide (fR q.2.2.2.2.2 = q.2.2.1.1.cls)
    | 2 => decide (q.2.2.1.1.name = "<init>") && decide (q.2.2.1.2.2.2.1 = none)
    | 3 => true
    | 4 => decide (q.2.2.1.1.name = "<init>") && decide (q.2.2.1.2.2.2.1 = none)
    | _ => true)
set_option maxRecDepth 100000 in
theorem MTL_ok : MTL.all okM = true := by decide +kernel
/-- what a row of the field table must be: own, idx, ci, k, nest, isRef, isFinal -/
def okF (q : Nat × Nat × Nat × Nat × Nat × Nat × Nat) : Bool :=
  decide (q.2.2.1 < 7) && decide (q.2.2.2.1 < fN q.2.2.1) && decide ((fT q.2.2.1 q.2.2.2.1).1 = fR q.2.2.1) &&
  (match q.2.2.2.2.2.1 with | 0 => decide (fTy q.2.2.1 q.2.2.2.1 = .int) | _ => (match fTy q.2.2.1 q.2.2.2.1 with | .object _ => true | .array _ => true | _ => false)) &&
  (match q.2.2.2.2.2.2 with | 0 => !(fT q.2.2.1 q.2.2.2.1).2.2.2 | _ => (fT q.2.2.1 q.2.2.2.1).2.2.2 && (decide (q.2.2.2.2.1 = 1) || decide (q.2.2.1 = q.1)))
set_option maxRecDepth 100000 in
theorem FTL_ok : FTL.all okF = true := by decide +kernel
def okCl (q : Nat × Nat × Nat) : Bool := decide (q.2.2 < 7)
theorem CTL_ok : CTL.all okCl = true := by decide +kernel
