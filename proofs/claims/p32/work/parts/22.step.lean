-- RESOLUTION
def mtab (own idx : Nat) : Option (MInfo × Nat × Nat × Nat) := (MTL.find? (fun q => q.1 == own && q.2.1 == idx)).map (fun q => (q.2.2.1, q.2.2.2.1, q.2.2.2.2.2, q.2.2.1.2.2.2.2.1))
def ftab (own idx : Nat) : Option (Nat × Nat × Nat × Nat × Nat) := (FTL.find? (fun q => q.1 == own && q.2.1 == idx)).map (fun q => q.2.2)
def ctab (own idx : Nat) : Option Nat := (CTL.find? (fun q => q.1 == own && q.2.1 == idx)).map (fun q => q.2.2)
def atab (own idx : Nat) : Option Nat := (ATL.find? (fun q => q.1 == own && q.2.1 == idx)).map (fun q => q.2.2)
def ktab (own idx : Nat) : Option Int32 := (KTL.find? (fun q => q.1 == own && q.2.1 == idx)).map (fun q => q.2.2)
def ltab (own idx : Nat) : Option Int64 := (LTL.find? (fun q => q.1 == own && q.2.1 == idx)).map (fun q => q.2.2)
def otab (own idx : Nat) : Bool := OTL.any (fun q => q.1 == own && q.2 == idx)
def xtab (own idx : Nat) : Option (Nat × Nat) := if own = 6 then (XTL.find? (fun q => q.1 == idx)).map (fun q => q.2) else none
def stab (is : Nat) : Bool := STL.any (fun q => q.1 == is)
theorem tab_mem {α β : Type} {T : List (Nat × Nat × α)} {own idx : Nat} {f : Nat × Nat × α → β} {r : β} (h : (T.find? (fun q => q.1 == own && q.2.1 == idx)).map f = some r) : ∃ q ∈ T, q.1 = own ∧ q.2.1 = idx ∧ r = f q := by
  cases hf : T.find? (fun q => q.1 == own && q.2.1 == idx) with
  | none => rw [hf] at h; cases h
  | some q =>
    rw [hf] at h
    cases h
    have h1 := List.find?_some hf
    simp only [Bool.and_eq_true, beq_iff_eq] at h1
    exact ⟨q, List.mem_of_find?_eq_some hf, h1.1, h1.2, rfl⟩
-- LOOKS
def onOpt {α : Type} (o : Option α) (F : α → Prop) : Prop := match o with | some x => F x | none => False
def p1i (st : List Value) (F : Int32 → List Value → Prop) : Prop := match st with | .int x :: r => F x r | _ => False
def p2i (st : List Value) (F : Int32 → Int32 → List Value → Prop) : Prop := match st with | .int y :: .int x :: r => F x y r | _ => False
def p1l (st : List Value) (F : Int64 → List Value → Prop) : Prop := match st with | .long x :: r => F x r | _ => False
def p2l (st : List Value) (F : Int64 → Int64 → List Value → Prop) : Prop := match st with | .long y :: .long x :: r => F x y r | _ => False
def p1r (st : List Value) (F : Nat → List Value → Prop) : Prop := match st with | .ref a :: r => F a r | _ => False
def p1v (st : List Value) (F : Value → List Value → Prop) : Prop := match st with | v :: r => F v r | _ => False
def p1n (st : List Value) (F : Option Nat → List Value → Prop) : Prop := match st with | .null :: r => F none r | .ref a :: r => F (some a) r | _ => False
def onInt (v : Value) (F : Int32 → Prop) : Prop := match v with | .int x => F x | _ => False
def onLong (v : Value) (F : Int64 → Prop) : Prop := match v with | .long x => F x | _ => False
def isRefV (v : Value) : Prop := v = .null ∨ ∃ a, v = .ref a
def onObj (o : Option HObj) (F : Nat → List Value → Prop) : Prop := match o with | some (.inr q) => F q.1 q.2 | _ => False
def onI (o : Option HObj) (F : Nat → Nat → (Nat → Int32) → Prop) : Prop := match o with | some (.inl (t, (n, .inl f))) => F t n f | _ => False
def onL (o : Option HObj) (F : Nat → (Nat → Int64) → Prop) : Prop := match o with | some (.inl (1, (n, .inr (.inl f)))) => F n f | _ => False
def onR (o : Option HObj) (F : Nat → Nat → (Nat → Option Nat) → Prop) : Prop := match o with | some (.inl (t, (n, .inr (.inr (.inr (.inr f)))))) => F t n f | _ => False
def onLen (o : Option HObj) (F : Nat → Prop) : Prop := match o with | some (.inl (t, (n, _))) => t < 7 ∧ F n | _ => False
def onOut (o : Out) (F : Option Value → Prop) (G : Nat → Prop) : Prop := match o with | .inl v => F v | .inr x => G x
def lk : List (Nat × Value) → Nat → Option Value
  | [], _ => none
  | (j, v) :: r, i => if j = i then some v else lk r i
def rm1 (i : Nat) : List (Nat × Value) → List (Nat × Value)
  | [] => []
  | (j, v) :: r => if j = i then rm1 i r else if j + 1 = i then (if v.category = 2 then rm1 i r else (j, v) :: rm1 i r) else (j, v) :: rm1 i r
def rm2 (i : Nat) : List (Nat × Value) → List (Nat × Value)
  | [] => []
  | (j, v) :: r => if j = i then rm2 i r else if j = i + 1 then rm2 i r else if j + 1 = i then (if v.category = 2 then rm2 i r else (j, v) :: rm2 i r) else (j, v) :: rm2 i r
def popA : Nat → List Value → List Value → (List Value → List Value → Prop) → Prop
  | 0, st, acc, F => F acc st
  | n + 1, v :: st, acc, F => popA n st (v :: acc) F
  | _ + 1, [], _, _ => False
def swAll (F : Int → Int → Prop) : Int → List Int → Prop
  | _, [] => True
  | i, o :: r => F i o ∧ swAll F (i + 1) r
def jmp (pc : Nat) (off : Int) (F : Nat → Prop) : Prop := 0 ≤ (pc : Int) + off ∧ F ((pc : Int) + off).toNat
def dfl (ci : Nat) : List Value := (List.range (fN ci)).map (fun k => defaultValue (fTy ci k))
def thr4 {ε : Type} (o : Except ε (Instr × Nat)) (F G : Nat → Prop) : Prop := match o with | .ok (.ldc is, 2) => F is | .ok (.ldc_w is, 3) => G is | _ => False
/-- one instruction: what has to hold in front of it, so that K holds behind it -/
def stepP (d : DD) (nm : String) (ml : Nat) (ret : Option FieldType) (own : Nat) (cc : ByteArray) (e U : Nat) (Rt : Option Value → HP → Prop) (Th : Nat → HP → Prop) (Xc : Nat → List (Nat × Value) → Nat → HP → Nat → Prop)
    (pc : Nat) (ins : Instr) (len : Nat) (L : List (Nat × Value)) (st : List Value) (g : HP) (b : Nat) (K : Nat → List (Nat × Value) → List Value → HP → Nat → Prop) : Prop :=
  match ins with
  | .aconst_null => len = 1 ∧ K (pc + 1) L (.null :: st) g b
  | .iconst n => len = 1 ∧ K (pc + 1) L (.int (Int32.ofInt n) :: st) g b
  | .bipush n => len = 2 ∧ K (pc + 2) L (.int (Int8.ofInt n).toInt32 :: st) g b
  | .sipush n => len = 3 ∧ K (pc + 3) L (.int (Int16.ofInt n).toInt32 :: st) g b
  | .lconst n => len = 1 ∧ K (pc + 1) L (.long (Int64.ofNat (n : Nat)) :: st) g b
  | .ldc i => len = 2 ∧ onOpt (ktab own i) (fun v => K (pc + 2) L (.int v :: st) g b)
  | .ldc2_w i => len = 3 ∧ onOpt (ltab own i) (fun v => K (pc + 3) L (.long v :: st) g b)
  | .iload i => len = 2 ∧ onOpt (lk L i) (fun v => onInt v (fun x => K (pc + 2) L (.int x :: st) g b))
  | .iload_n i => len = 1 ∧ onOpt (lk L i) (fun v => onInt v (fun x => K (pc + 1) L (.int x :: st) g b))
  | .lload i => len = 2 ∧ onOpt (lk L i) (fun v => onLong v (fun x => K (pc + 2) L (.long x :: st) g b))
  | .lload_n i => len = 1 ∧ onOpt (lk L i) (fun v => onLong v (fun x => K (pc + 1) L (.long x :: st) g b))
  | .aload i => len = 2 ∧ onOpt (lk L i) (fun v => isRefV v ∧ K (pc + 2) L (v :: st) g b)
  | .aload_n i => len = 1 ∧ onOpt (lk L i) (fun v => isRefV v ∧ K (pc + 1) L (v :: st) g b)
  | .istore i => len = 2 ∧ i < ml ∧ p1i st (fun x r => K (pc + 2) ((i, .int x) :: rm1 i L) r g b)
  | .istore_n i => len = 1 ∧ (i : Nat) < ml ∧ p1i st (fun x r => K (pc + 1) (((i : Nat), .int x) :: rm1 i L) r g b)
  | .lstore i => len = 2 ∧ i + 1 < ml ∧ p1l st (fun x r => K (pc + 2) ((i, .long x) :: rm2 i L) r g b)
  | .lstore_n i => len = 1 ∧ (i : Nat) + 1 < ml ∧ p1l st (fun x r => K (pc + 1) (((i : Nat), .long x) :: rm2 i L) r g b)
  | .astore i => len = 2 ∧ i < ml ∧ p1v st (fun v r => isRefV v ∧ K (pc + 2) ((i, v) :: rm1 i L) r g b)
  | .astore_n i => len = 1 ∧ (i : Nat) < ml ∧ p1v st (fun v r => isRefV v ∧ K (pc + 1) (((i : Nat), v) :: rm1 i L) r g b)
  | .iinc i n => len = 3 ∧ i < ml ∧ onOpt (lk L i) (fun v => onInt v (fun x => K (pc + 3) ((i, .int (x + Int32.ofInt n)) :: rm1 i L) st g b))
  | .pop => len = 1 ∧ p1v st (fun v r => v.category = 1 ∧ K (pc + 1) L r g b)
  | .dup => len = 1 ∧ p1v st (fun v r => v.category = 1 ∧ K (pc + 1) L (v :: v :: r) g b)
  | .dup2 => len = 1 ∧ p1v st (fun v r0 => p1v r0 (fun w r => v.category = 1 ∧ w.category = 1 ∧ K (pc + 1) L (v :: w :: v :: w :: r) g b))
  | .iadd => len = 1 ∧ p2i st (fun x y r => K (pc + 1) L (.int (x + y) :: r) g b)
  | .isub => len = 1 ∧ p2i st (fun x y r => K (pc + 1) L (.int (x - y) :: r) g b)
  | .imul => len = 1 ∧ p2i st (fun x y r => K (pc + 1) L (.int (x * y) :: r) g b)
  | .iand => len = 1 ∧ p2i st (fun x y r => K (pc + 1) L (.int (x &&& y) :: r) g b)
  | .ixor => len = 1 ∧ p2i st (fun x y r => K (pc + 1) L (.int (x ^^^ y) :: r) g b)
  | .ior => len = 1 ∧ p2i st (fun x y r => K (pc + 1) L (.int (x ||| y) :: r) g b)
  | .ishl => len = 1 ∧ p2i st (fun x y r => K (pc + 1) L (.int (x <<< (y &&& 31)) :: r) g b)
  | .idiv => len = 1 ∧ p2i st (fun x y r => ¬ y = 0 ∧ K (pc + 1) L (.int (x / y) :: r) g b)
  | .irem => len = 1 ∧ p2i st (fun x y r => ¬ y = 0 ∧ K (pc + 1) L (.int (x - x / y * y) :: r) g b)
  | .ineg => len = 1 ∧ p1i st (fun x r => K (pc + 1) L (.int (-x) :: r) g b)
  | .ladd => len = 1 ∧ p2l st (fun x y r => K (pc + 1) L (.long (x + y) :: r) g b)
  | .lsub => len = 1 ∧ p2l st (fun x y r => K (pc + 1) L (.long (x - y) :: r) g b)
  | .lmul => len = 1 ∧ p2l st (fun x y r => K (pc + 1) L (.long (x * y) :: r) g b)
  | .ldiv => len = 1 ∧ p2l st (fun x y r => ¬ y = 0 ∧ K (pc + 1) L (.long (x / y) :: r) g b)
  | .lrem => len = 1 ∧ p2l st (fun x y r => ¬ y = 0 ∧ K (pc + 1) L (.long (x - x / y * y) :: r) g b)
  | .lneg => len = 1 ∧ p1l st (fun x r => K (pc + 1) L (.long (-x) :: r) g b)
  | .lcmp => len = 1 ∧ p2l st (fun x y r => K (pc + 1) L (.int (lg_cmp x y) :: r) g b)
  | .i2l => len = 1 ∧ p1i st (fun x r => K (pc + 1) L (.long x.toInt64 :: r) g b)
  | .l2i => len = 1 ∧ p1l st (fun x r => K (pc + 1) L (.int x.toInt32 :: r) g b)
  | .ifCond .eq o => len = 3 ∧ p1i st (fun x r => jmp pc o (fun t => (x = 0 → K t L r g b) ∧ (¬ x = 0 → K (pc + 3) L r g b)))
  | .ifCond .ne o => len = 3 ∧ p1i st (fun x r => jmp pc o (fun t => (x = 0 → K (pc + 3) L r g b) ∧ (¬ x = 0 → K t L r g b)))
  | .ifCond .lt o => len = 3 ∧ p1i st (fun x r => jmp pc o (fun t => (x < 0 → K t L r g b) ∧ (¬ x < 0 → K (pc + 3) L r g b)))
  | .ifCond .ge o => len = 3 ∧ p1i st (fun x r => jmp pc o (fun t => (x < 0 → K (pc + 3) L r g b) ∧ (¬ x < 0 → K t L r g b)))
  | .ifCond .gt o => len = 3 ∧ p1i st (fun x r => jmp pc o (fun t => (0 < x → K t L r g b) ∧ (¬ 0 < x → K (pc + 3) L r g b)))
  | .ifCond .le o => len = 3 ∧ p1i st (fun x r => jmp pc o (fun t => (0 < x → K (pc + 3) L r g b) ∧ (¬ 0 < x → K t L r g b)))
  | .if_icmp .eq o => len = 3 ∧ p2i st (fun x y r => jmp pc o (fun t => (x = y → K t L r g b) ∧ (¬ x = y → K (pc + 3) L r g b)))
  | .if_icmp .ne o => len = 3 ∧ p2i st (fun x y r => jmp pc o (fun t => (x = y → K (pc + 3) L r g b) ∧ (¬ x = y → K t L r g b)))
  | .if_icmp .lt o => len = 3 ∧ p2i st (fun x y r => jmp pc o (fun t => (x < y → K t L r g b) ∧ (¬ x < y → K (pc + 3) L r g b)))
  | .if_icmp .ge o => len = 3 ∧ p2i st (fun x y r => jmp pc o (fun t => (x < y → K (pc + 3) L r g b) ∧ (¬ x < y → K t L r g b)))
  | .if_icmp .gt o => len = 3 ∧ p2i st (fun x y r => jmp pc o (fun t => (y < x → K t L r g b) ∧ (¬ y < x → K (pc + 3) L r g b)))
  | .if_icmp .le o => len = 3 ∧ p2i st (fun x y r => jmp pc o (fun t => (y < x → K (pc + 3) L r g b) ∧ (¬ y < x → K t L r g b)))
  | .ifnull o => len = 3 ∧ p1n st (fun v r => (v = none → jmp pc o (fun t => K t L r g b)) ∧ (∀ a, v = some a → K (pc + 3) L r g b))
  | .ifnonnull o => len = 3 ∧ p1n st (fun v r => (v = none → K (pc + 3) L r g b) ∧ (∀ a, v = some a → jmp pc o (fun t => K t L r g b)))
  | .goto o => len = 3 ∧ jmp pc o (fun t => K t L st g b)
  | .tableswitch df lo hi offs => p1i st (fun x r => (hi = lo + offs.size - 1 ∧ jmp pc df (fun t => x.toInt < lo ∨ hi < x.toInt → K t L r g b)) ∧ swAll (fun i o => x.toInt = i → jmp pc o (fun t => K t L r g b)) lo offs.toList)
  | .getfield i => len = 3 ∧ onOpt (ftab own i) (fun f => p1r st (fun a r => onObj (g a) (fun ci fs => ci = f.1 ∧ onOpt (fs[f.2.1]?) (fun v => K (pc + 3) L (v :: r) g b))))
  | .putfield i => len = 3 ∧ onOpt (ftab own i) (fun f => p1v st (fun v r0 => p1r r0 (fun a r => (match f.2.2.2.1 with | 0 => ∃ x, v = .int x | _ => isRefV v) ∧ (f.2.2.2.2 = 0 ∨ (nm = "<init>" ∧ f.2.2.1 = 0)) ∧ onObj (g a) (fun ci fs => ci = f.1 ∧ f.2.1 < fs.length ∧ K (pc + 3) L r (hup g a (hO f.1 (fs.set f.2.1 v))) b))))
  | .arraylength => len = 1 ∧ p1r st (fun a r => onLen (g a) (fun n => K (pc + 1) L (.int (Int32.ofNat n) :: r) g b))
  | .iaload => len = 1 ∧ p1i st (fun i r0 => p1r r0 (fun a r => onI (g a) (fun t n f => t = 0 ∧ vp_in i n ∧ K (pc + 1) L (.int (f i.toNatClampNeg) :: r) g b)))
  | .baload => len = 1 ∧ p1i st (fun i r0 => p1r r0 (fun a r => onI (g a) (fun t n f => t = 2 ∧ vp_in i n ∧ K (pc + 1) L (.int (f i.toNatClampNeg) :: r) g b)))
  | .aaload => len = 1 ∧ p1i st (fun i r0 => p1r r0 (fun a r => onR (g a) (fun t n f => (3 ≤ t ∧ t < 7) ∧ vp_in i n ∧ ((f i.toNatClampNeg = none → K (pc + 1) L (.null :: r) g b) ∧ (∀ q, f i.toNatClampNeg = some q → K (pc + 1) L (.ref q :: r) g b)))))
  | .iastore => len = 1 ∧ p1i st (fun x r1 => p1i r1 (fun i r0 => p1r r0 (fun a r => onI (g a) (fun t n f => t = 0 ∧ vp_in i n ∧ K (pc + 1) L r (hup g a (hI 0 n (upd f i.toNatClampNeg x))) b))))
  | .bastore => len = 1 ∧ p1i st (fun x r1 => p1i r1 (fun i r0 => p1r r0 (fun a r => onI (g a) (fun t n f => t = 2 ∧ (x = 0 ∨ x = 1) ∧ vp_in i n ∧ K (pc + 1) L r (hup g a (hI 2 n (upd f i.toNatClampNeg x))) b))))
  | .aastore => len = 1 ∧ p1r st (fun v r1 => p1i r1 (fun i r0 => p1r r0 (fun a r => onR (g a) (fun t n f => onObj (g v) (fun ci _ => ((t = 3 ∧ ci = 1) ∨ (t = 4 ∧ ci = 2) ∨ (t = 5 ∧ ci = 5) ∨ (t = 6 ∧ ci = 4)) ∧ vp_in i n ∧ K (pc + 1) L r (hup g a (hR t n (va_up f i.toNatClampNeg (some v)))) b)))))
  | .newarray at_ => len = 2 ∧ p1i st (fun n r => ¬ n < 0 ∧ n.toNatClampNeg ≤ 65536 ∧ b + (n.toNatClampNeg / 12 + 1) ≤ U ∧ (match newarray.typeOf at_ with
      | .int => ∀ q, g q = none → K (pc + 2) L (.ref q :: r) (hup g q (hI 0 n.toNatClampNeg (fun _ => 0))) (b + (n.toNatClampNeg / 12 + 1))
      | .boolean => ∀ q, g q = none → K (pc + 2) L (.ref q :: r) (hup g q (hI 2 n.toNatClampNeg (fun _ => 0))) (b + (n.toNatClampNeg / 12 + 1))
      | _ => False))
  | .anewarray i => len = 3 ∧ onOpt (atab own i) (fun t => p1i st (fun n r => ¬ n < 0 ∧ n.toNatClampNeg ≤ 65536 ∧ b + (n.toNatClampNeg / 12 + 1) ≤ U ∧ ∀ q, g q = none → K (pc + 3) L (.ref q :: r) (hup g q (hR t n.toNatClampNeg (fun _ => none))) (b + (n.toNatClampNeg / 12 + 1))))
  | .new i => len = 3 ∧ (match xtab own i with
      | some x => st = [] ∧ b + 1 ≤ U ∧ Th x.2 g ∧ decode cc (pc + 3) = .ok (.dup, 1) ∧
          thr4 (decode cc (pc + 4)) (fun is => stab is = true ∧ decode cc (pc + 6) = .ok (.invokespecial x.1, 3) ∧ decode cc (pc + 9) = .ok (.athrow, 1)) (fun is => stab is = true ∧ decode cc (pc + 7) = .ok (.invokespecial x.1, 3) ∧ decode cc (pc + 10) = .ok (.athrow, 1))
      | none => onOpt (ctab own i) (fun ci => b + 3 ≤ U ∧ ∀ q, g q = none → K (pc + 3) L (.ref q :: st) (hup g q (hO ci (dfl ci))) (b + 3)))
  | .invokestatic i => len = 3 ∧ onOpt (mtab own i) (fun mk => (mk.2.1 = 0 ∨ mk.2.1 = 3 ∨ mk.2.1 = 5) ∧ popA mk.2.2.2 st [] (fun As rest => (rest.map fun v => v.category).sum ≤ 8 ∧
      ∃ e2 u2, e2 < e ∧ b + u2 ≤ U ∧ Ct d mk.1 e2 u2 As g (fun o g2 => onOut o (fun v => K (pc + 3) L (v.toList ++ rest) g2 (b + u2)) (fun x => x < 3 → Xc pc L x g2 (b + u2)))))
  | .invokevirtual i => len = 3 ∧ onOpt (mtab own i) (fun mk => mk.2.1 = 1 ∧ popA (mk.2.2.2 + 1) st [] (fun As rest => (rest.map fun v => v.category).sum ≤ 8 ∧ p1r As (fun a As2 => onObj (g a) (fun ci _ => ci = mk.2.2.1 ∧
      ∃ e2 u2, e2 < e ∧ b + u2 ≤ U ∧ Ct d mk.1 e2 u2 (.ref a :: As2) g (fun o g2 => onOut o (fun v => K (pc + 3) L (v.toList ++ rest) g2 (b + u2)) (fun x => x < 3 → Xc pc L x g2 (b + u2)))))))
  | .invokespecial i => len = 3 ∧ (match otab own i with
      | true => p1r st (fun _ r => (r.map fun v => v.category).sum ≤ 8 ∧ K (pc + 3) L r g b)
      | false => onOpt (mtab own i) (fun mk => (mk.2.1 = 2 ∨ mk.2.1 = 4) ∧ popA (mk.2.2.2 + 1) st [] (fun As rest => (rest.map fun v => v.category).sum ≤ 8 ∧ p1r As (fun a As2 =>
          ∃ e2 u2, e2 < e ∧ b + u2 ≤ U ∧ Ct d mk.1 e2 u2 (.ref a :: As2) g (fun o g2 => onOut o (fun v => K (pc + 3) L (v.toList ++ rest) g2 (b + u2)) (fun x => x < 3 → Xc pc L x g2 (b + u2)))))))
  | .ireturn => len = 1 ∧ p1i st (fun x r => r = [] ∧ b ≤ U ∧ (match ret with | some .int => True | some .boolean => x = 0 ∨ x = 1 | _ => False) ∧ Rt (some (.int x)) g)
  | .lreturn => len = 1 ∧ p1l st (fun x r => r = [] ∧ b ≤ U ∧ ret = some .long ∧ Rt (some (.long x)) g)
  | .areturn => len = 1 ∧ p1v st (fun v r => r = [] ∧ b ≤ U ∧ isRefV v ∧ (match ret with | some (.object _) => True | _ => False) ∧ Rt (some v) g)
  | .return_ => len = 1 ∧ st = [] ∧ b ≤ U ∧ ret = none ∧ Rt none g
  | _ => False
