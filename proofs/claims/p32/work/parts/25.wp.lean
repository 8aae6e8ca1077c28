-- THE WALK AS A FUNCTION
def selL : List Nat → List (Nat × Value) → List (Nat × Value)
  | [], _ => []
  | i :: r, L => match lk L i with | some v => (i, v) :: selL r L | none => selL r L
def onDec {ε : Type} (x : Except ε (Instr × Nat)) (F : Instr → Nat → Prop) : Prop := match x with | .ok q => F q.1 q.2 | .error _ => False
def cutB : List (Nat × List Nat) → Nat → Bool
  | [], _ => false
  | (p, _) :: r, pc => if p = pc then true else cutB r pc
def cutS : List (Nat × List Nat) → Nat → List Nat
  | [], _ => []
  | (p, l) :: r, pc => if p = pc then l else cutS r pc
/-- the fuel, once the stack is told: a look that is stuck stops the walk behind it -/
def gate (_ : List Value) (n : Nat) : Nat := n
def wpG (d : DD) (mi : MInfo) (nm : String) (ml : Nat) (ret : Option FieldType) (own : Nat) (cc : ByteArray) (e U : Nat) (R : Room) (Z : List Frame → Array Value → State → State → Prop) (Rt : Option Value → HP → Prop) (Th : Nat → HP → Prop) (Xc : Nat → List (Nat × Value) → Nat → HP → Nat → Prop) (cut : List (Nat × List Nat)) : Nat → Nat → List (Nat × Value) → List Value → HP → Nat → Prop
  | 0, pc, L, st, g, b => J d mi R Z pc L st g b
  | n + 1, pc, L, st, g, b => onDec (decode cc pc) (fun ins len => stepP d nm ml ret own cc e U Rt Th Xc pc ins len L st g b (fun pc L st g b => if cutB cut pc = true then J d mi R Z pc (selL (cutS cut pc) L) st g b else wpG d mi nm ml ret own cc e U R Z Rt Th Xc cut (gate st n) pc L st g b))
theorem wp_s {d : DD} {mi : MInfo} {nm : String} {ml : Nat} {ret : Option FieldType} {own : Nat} {cc : ByteArray} {e U : Nat} {R : Room} {Z : List Frame → Array Value → State → State → Prop} {Rt : Option Value → HP → Prop} {Th : Nat → HP → Prop} {Xc : Nat → List (Nat × Value) → Nat → HP → Nat → Prop} {cut : List (Nat × List Nat)} {n pc : Nat} {L : List (Nat × Value)} {st : List Value} {g : HP} {b : Nat} :
    wpG d mi nm ml ret own cc e U R Z Rt Th Xc cut (n + 1) pc L st g b = onDec (decode cc pc) (fun ins len => stepP d nm ml ret own cc e U Rt Th Xc pc ins len L st g b (fun pc L st g b => if cutB cut pc = true then J d mi R Z pc (selL (cutS cut pc) L) st g b else wpG d mi nm ml ret own cc e U R Z Rt Th Xc cut (gate st n) pc L st g b)) := rfl
theorem wp_0 {d : DD} {mi : MInfo} {nm : String} {ml : Nat} {ret : Option FieldType} {own : Nat} {cc : ByteArray} {e U : Nat} {R : Room} {Z : List Frame → Array Value → State → State → Prop} {Rt : Option Value → HP → Prop} {Th : Nat → HP → Prop} {Xc : Nat → List (Nat × Value) → Nat → HP → Nat → Prop} {cut : List (Nat × List Nat)} {pc : Nat} {L : List (Nat × Value)} {st : List Value} {g : HP} {b : Nat} :
    wpG d mi nm ml ret own cc e U R Z Rt Th Xc cut 0 pc L st g b = J d mi R Z pc L st g b := rfl
theorem selL_mem : ∀ {lv : List Nat} {L : List (Nat × Value)} {q : Nat × Value}, q ∈ selL lv L → q ∈ L
  | [], L, q, h => by cases h
  | i :: r, L, q, h => by
    unfold selL at h
    split at h
    · next v hv =>
      rcases List.mem_cons.mp h with rfl | h
      · exact lk_mem hv
      · exact selL_mem h
    · exact selL_mem h
theorem J_sub {d : DD} {mi : MInfo} {R : Room} {Z : List Frame → Array Value → State → State → Prop} {pc : Nat} {L L2 : List (Nat × Value)} {st : List Value} {g : HP} {b : Nat} (h : ∀ q ∈ L2, q ∈ L) (k : J d mi R Z pc L2 st g b) : J d mi R Z pc L st g b :=
  fun p l E s m args below meth c H locs ls C hW hS hl => k p l E s m args below meth c H locs ls C hW hS ⟨hl.1, hl.2.1, fun q hq => hl.2.2 q (h q hq)⟩
theorem wp_sound {d : DD} {mi : MInfo} {own e U : Nat} {R : Room} {Z : List Frame → Array Value → State → State → Prop} {Rt : Option Value → HP → Prop} {Th : Nat → HP → Prop} {Xc : Nat → List (Nat × Value) → Nat → HP → Nat → Prop} {cut : List (Nat × List Nat)}
    (hown : mi.1.cls = fR own) (hlv : 6 + e ≤ R.frames ∧ 100 + 60 * e ≤ R.locals ∧ U ≤ R.cells ∧ 12 * U ≤ R.slots) (hX : ∀ pc L x g b, x < 3 → Xc pc L x g b → JT d mi R Z pc L x g b) (hRt : RetOK d mi R Z U Rt) (hTh : ThOK d mi own R Z U Th) :
    ∀ (n pc : Nat) (L : List (Nat × Value)) (st : List Value) (g : HP) (b : Nat), wpG d mi mi.1.name mi.2.2.1 mi.2.2.2.1 own mi.2.1 e U R Z Rt Th Xc cut n pc L st g b → J d mi R Z pc L st g b
  | 0, _, _, _, _, _, h => h
  | n + 1, pc, L, st, g, b, h => by
    rw [wp_s] at h
    unfold onDec at h
    split at h
    · next q hq =>
      refine stepP_sound (ins := q.1) (len := q.2) ?_ hown hlv hX hRt hTh hq h
      intro pc2 L2 st2 g2 b2 h2
      split at h2
      · exact J_sub (fun q hq => selL_mem hq) h2
      · exact wp_sound hown hlv hX hRt hTh n pc2 L2 st2 g2 b2 h2
    · exact h.elim
/-- a plain method (no table of its own): its contract out of the function -/
abbrev wpM (d : DD) (mi : MInfo) (nm : String) (ml : Nat) (ret : Option FieldType) (own : Nat) (cc : ByteArray) (e U : Nat) (Post : Out → HP → Prop) (cut : List (Nat × List Nat)) (n pc : Nat) (L : List (Nat × Value)) (st : List Value) (g : HP) (b : Nat) : Prop :=
  wpG d mi nm ml ret own cc e U (rmOf e U) (jZ d U Post) (fun v g => Post (.inl v) g) (fun x g => Post (.inr x) g) (fun _ _ x g b => b ≤ U ∧ Post (.inr x) g) cut n pc L st g b
theorem J_wpM {d : DD} {mi : MInfo} {own e U : Nat} {Post : Out → HP → Prop} {pc : Nat} {L : List (Nat × Value)} {st : List Value} {g : HP} {b : Nat} (cut : List (Nat × List Nat)) (n : Nat) (hown : mi.1.cls = fR own) (hh : mi.2.2.2.2.2 = [])
    (h : wpM d mi mi.1.name mi.2.2.1 mi.2.2.2.1 own mi.2.1 e U Post cut n pc L st g b) : J d mi (rmOf e U) (jZ d U Post) pc L st g b :=
  wp_sound hown ⟨Nat.le_refl _, Nat.le_refl _, Nat.le_refl _, Nat.le_refl _⟩ (fun pc L x g b hx hp => JT_out hx hh hp.1 hp.2) RetOK_plain (ThOK_plain hown hh) n pc L st g b h
theorem Ct_wpM {d : DD} {mi : MInfo} {own e U : Nat} {Post : Out → HP → Prop} {args : List Value} {g : HP} (cut : List (Nat × List Nat)) (n : Nat) (hown : mi.1.cls = fR own) (hh : mi.2.2.2.2.2 = []) (hy : plainFor mi.1 = true) (hn : (lg_sl args).length ≤ mi.2.2.1)
    (h : wpM d mi mi.1.name mi.2.2.1 mi.2.2.2.1 own mi.2.1 e U Post cut n 0 (lv_args 0 args) [] g 0) : Ct d mi e U args g Post :=
  Ct_of_J hh hy hn (J_wpM cut n hown hh h)
-- REWRITING ROWS
theorem onDec_s {ε : Type} {i : Instr} {l : Nat} {F : Instr → Nat → Prop} : onDec (ε := ε) (.ok (i, l)) F = F i l := rfl
theorem cutB_n {pc : Nat} : cutB [] pc = false := rfl
theorem cutB_c {p : Nat} {l : List Nat} {r : List (Nat × List Nat)} {pc : Nat} : cutB ((p, l) :: r) pc = if p = pc then true else cutB r pc := rfl
theorem cutS_c {p : Nat} {l : List Nat} {r : List (Nat × List Nat)} {pc : Nat} : cutS ((p, l) :: r) pc = if p = pc then l else cutS r pc := rfl
theorem gate_0 {n : Nat} : gate [] n = n := rfl
theorem gate_i {x : Int32} {r : List Value} {n : Nat} : gate (.int x :: r) n = gate r n := rfl
theorem gate_l {x : Int64} {r : List Value} {n : Nat} : gate (.long x :: r) n = gate r n := rfl
theorem gate_r {x : Nat} {r : List Value} {n : Nat} : gate (.ref x :: r) n = gate r n := rfl
theorem gate_n {r : List Value} {n : Nat} : gate (.null :: r) n = gate r n := rfl
theorem gate_rf {o : Option Nat} {r : List Value} {n : Nat} : gate (va_rf o :: r) n = gate r n := rfl
theorem lk_n {i : Nat} : lk [] i = none := rfl
theorem lk_c {j : Nat} {v : Value} {r : List (Nat × Value)} {i : Nat} : lk ((j, v) :: r) i = if j = i then some v else lk r i := rfl
theorem selL_n {L : List (Nat × Value)} : selL [] L = [] := rfl
def selO (o : Option Value) (i : Nat) (r : List (Nat × Value)) : List (Nat × Value) := match o with | some v => (i, v) :: r | none => r
theorem selL_c {i : Nat} {r : List Nat} {L : List (Nat × Value)} : selL (i :: r) L = selO (lk L i) i (selL r L) := by
  cases h : lk L i <;> simp only [selL, selO, h]
theorem selO_s {v : Value} {i : Nat} {r : List (Nat × Value)} : selO (some v) i r = (i, v) :: r := rfl
theorem selO_n {i : Nat} {r : List (Nat × Value)} : selO none i r = r := rfl
theorem rm1_n {i : Nat} : rm1 i [] = [] := rfl
theorem rm1_c {i j : Nat} {v : Value} {r : List (Nat × Value)} : rm1 i ((j, v) :: r) = if j = i then rm1 i r else if j + 1 = i then (if v.category = 2 then rm1 i r else (j, v) :: rm1 i r) else (j, v) :: rm1 i r := rfl
theorem rm2_n {i : Nat} : rm2 i [] = [] := rfl
theorem rm2_c {i j : Nat} {v : Value} {r : List (Nat × Value)} : rm2 i ((j, v) :: r) = if j = i then rm2 i r else if j = i + 1 then rm2 i r else if j + 1 = i then (if v.category = 2 then rm2 i r else (j, v) :: rm2 i r) else (j, v) :: rm2 i r := rfl
theorem cat_i {x : Int32} : (Value.int x).category = 1 := rfl
theorem cat_l {x : Int64} : (Value.long x).category = 2 := rfl
theorem cat_r {x : Nat} : (Value.ref x).category = 1 := rfl
theorem cat_n : Value.null.category = 1 := rfl
theorem cat_rf {o : Option Nat} : (va_rf o).category = 1 := by cases o <;> rfl
theorem onOpt_s {α : Type} {x : α} {F : α → Prop} : onOpt (some x) F = F x := rfl
theorem p1i_s {x : Int32} {r : List Value} {F : Int32 → List Value → Prop} : p1i (.int x :: r) F = F x r := rfl
theorem p2i_s {x y : Int32} {r : List Value} {F : Int32 → Int32 → List Value → Prop} : p2i (.int y :: .int x :: r) F = F x y r := rfl
theorem p1l_s {x : Int64} {r : List Value} {F : Int64 → List Value → Prop} : p1l (.long x :: r) F = F x r := rfl
theorem p2l_s {x y : Int64} {r : List Value} {F : Int64 → Int64 → List Value → Prop} : p2l (.long y :: .long x :: r) F = F x y r := rfl
theorem p1r_s {x : Nat} {r : List Value} {F : Nat → List Value → Prop} : p1r (.ref x :: r) F = F x r := rfl
theorem p1v_s {v : Value} {r : List Value} {F : Value → List Value → Prop} : p1v (v :: r) F = F v r := rfl
theorem p1n_n {r : List Value} {F : Option Nat → List Value → Prop} : p1n (.null :: r) F = F none r := rfl
theorem p1n_r {a : Nat} {r : List Value} {F : Option Nat → List Value → Prop} : p1n (.ref a :: r) F = F (some a) r := rfl
theorem p1n_rf {v : Option Nat} {r : List Value} {F : Option Nat → List Value → Prop} : p1n (va_rf v :: r) F = F v r := by cases v <;> rfl
theorem onInt_s {x : Int32} {F : Int32 → Prop} : onInt (.int x) F = F x := rfl
theorem onLong_s {x : Int64} {F : Int64 → Prop} : onLong (.long x) F = F x := rfl
theorem onObj_s {ci : Nat} {fs : List Value} {F : Nat → List Value → Prop} : onObj (some (hO ci fs)) F = F ci fs := rfl
theorem onI_s {t n : Nat} {f : Nat → Int32} {F : Nat → Nat → (Nat → Int32) → Prop} : onI (some (hI t n f)) F = F t n f := rfl
theorem onL_s {n : Nat} {f : Nat → Int64} {F : Nat → (Nat → Int64) → Prop} : onL (some (hL n f)) F = F n f := rfl
theorem onR_s {t n : Nat} {f : Nat → Option Nat} {F : Nat → Nat → (Nat → Option Nat) → Prop} : onR (some (hR t n f)) F = F t n f := rfl
theorem onLen_i {t n : Nat} {f : Nat → Int32} {F : Nat → Prop} : onLen (some (hI t n f)) F = (t < 7 ∧ F n) := rfl
theorem onLen_l {n : Nat} {f : Nat → Int64} {F : Nat → Prop} : onLen (some (hL n f)) F = (1 < 7 ∧ F n) := rfl
theorem onLen_r {t n : Nat} {f : Nat → Option Nat} {F : Nat → Prop} : onLen (some (hR t n f)) F = (t < 7 ∧ F n) := rfl
theorem onOut_v {v : Option Value} {F : Option Value → Prop} {G : Nat → Prop} : onOut (.inl v) F G = F v := rfl
theorem onOut_x {x : Nat} {F : Option Value → Prop} {G : Nat → Prop} : onOut (.inr x) F G = G x := rfl
theorem isRefV_r {a : Nat} : isRefV (.ref a) = True := eq_true (Or.inr ⟨a, rfl⟩)
theorem isRefV_n : isRefV .null = True := eq_true (Or.inl rfl)
theorem isRefV_rf {v : Option Nat} : isRefV (va_rf v) = True := by cases v with | none => exact isRefV_n | some a => exact isRefV_r
theorem jmp_s {pc : Nat} {off : Int} {F : Nat → Prop} : jmp pc off F = (0 ≤ (pc : Int) + off ∧ F ((pc : Int) + off).toNat) := rfl
theorem swAll_n {F : Int → Int → Prop} {i : Int} : swAll F i [] = True := rfl
theorem swAll_c {F : Int → Int → Prop} {i x : Int} {r : List Int} : swAll F i (x :: r) = (F i x ∧ swAll F (i + 1) r) := rfl
theorem thr4_s {ε : Type} {is : Nat} {F G : Nat → Prop} : thr4 (ε := ε) (.ok (.ldc is, 2)) F G = F is := rfl
theorem thr4_w {ε : Type} {is : Nat} {F G : Nat → Prop} : thr4 (ε := ε) (.ok (.ldc_w is, 3)) F G = G is := rfl
theorem nzi_2 : ((2 : Int32) = 0) = False := by simp
theorem nzi_3 : ((3 : Int32) = 0) = False := by simp
theorem nzi_5 : ((5 : Int32) = 0) = False := by simp
theorem nzi_8 : ((8 : Int32) = 0) = False := by simp
theorem nzi_4 : ((4 : Int32) = 0) = False := by simp
theorem nzi_6 : ((6 : Int32) = 0) = False := by simp
theorem nzi_7 : ((7 : Int32) = 0) = False := by simp
theorem nzi_13 : ((13 : Int32) = 0) = False := by simp
theorem nzi_15 : ((15 : Int32) = 0) = False := by simp
theorem nzi_16 : ((16 : Int32) = 0) = False := by simp
theorem nzi_20 : ((20 : Int32) = 0) = False := by simp
theorem nzi_25 : ((25 : Int32) = 0) = False := by simp
theorem nzi_30 : ((30 : Int32) = 0) = False := by simp
theorem nzi_51 : ((51 : Int32) = 0) = False := by simp
theorem nzi_64 : ((64 : Int32) = 0) = False := by simp
theorem nzi_128 : ((128 : Int32) = 0) = False := by simp
theorem nzi_200 : ((200 : Int32) = 0) = False := by simp
theorem nzi_300 : ((300 : Int32) = 0) = False := by simp
theorem nzi_400 : ((400 : Int32) = 0) = False := by simp
theorem nzi_512 : ((512 : Int32) = 0) = False := by simp
theorem nzi_2048 : ((2048 : Int32) = 0) = False := by simp
theorem nzi_10 : ((10 : Int32) = 0) = False := by simp
theorem nzi_11 : ((11 : Int32) = 0) = False := by simp
theorem nzi_22 : ((22 : Int32) = 0) = False := by simp
theorem nzi_100 : ((100 : Int32) = 0) = False := by simp
theorem nzi_1000 : ((1000 : Int32) = 0) = False := by simp
theorem nzl_10 : ((10 : Int64) = 0) = False := by simp
theorem nzl_100 : ((100 : Int64) = 0) = False := by simp
theorem nzl_1000 : ((1000 : Int64) = 0) = False := by simp
theorem exInt {x : Int32} : (∃ y, Value.int x = .int y) = True := eq_true ⟨x, rfl⟩
theorem lva_n {i : Nat} : lv_args i [] = [] := rfl
theorem lva_i {i : Nat} {x : Int32} {r : List Value} : lv_args i (.int x :: r) = (i, .int x) :: lv_args (i + 1) r := rfl
theorem lva_r {i : Nat} {x : Nat} {r : List Value} : lv_args i (.ref x :: r) = (i, .ref x) :: lv_args (i + 1) r := rfl
theorem lva_l {i : Nat} {x : Int64} {r : List Value} : lv_args i (.long x :: r) = (i, .long x) :: lv_args (i + 2) r := rfl
theorem popA_1 {a0 : Value} {st : List Value} {F : List Value → List Value → Prop} : popA 1 (a0 :: st) [] F = F [a0] st := rfl
theorem popA_2 {a0 a1 : Value} {st : List Value} {F : List Value → List Value → Prop} : popA 2 (a0 :: a1 :: st) [] F = F [a1, a0] st := rfl
theorem popA_3 {a0 a1 a2 : Value} {st : List Value} {F : List Value → List Value → Prop} : popA 3 (a0 :: a1 :: a2 :: st) [] F = F [a2, a1, a0] st := rfl
theorem popA_4 {a0 a1 a2 a3 : Value} {st : List Value} {F : List Value → List Value → Prop} : popA 4 (a0 :: a1 :: a2 :: a3 :: st) [] F = F [a3, a2, a1, a0] st := rfl
theorem popA_5 {a0 a1 a2 a3 a4 : Value} {st : List Value} {F : List Value → List Value → Prop} : popA 5 (a0 :: a1 :: a2 :: a3 :: a4 :: st) [] F = F [a4, a3, a2, a1, a0] st := rfl
theorem popA_6 {a0 a1 a2 a3 a4 a5 : Value} {st : List Value} {F : List Value → List Value → Prop} : popA 6 (a0 :: a1 :: a2 :: a3 :: a4 :: a5 :: st) [] F = F [a5, a4, a3, a2, a1, a0] st := rfl
theorem popA_7 {a0 a1 a2 a3 a4 a5 a6 : Value} {st : List Value} {F : List Value → List Value → Prop} : popA 7 (a0 :: a1 :: a2 :: a3 :: a4 :: a5 :: a6 :: st) [] F = F [a6, a5, a4, a3, a2, a1, a0] st := rfl
theorem popA_8 {a0 a1 a2 a3 a4 a5 a6 a7 : Value} {st : List Value} {F : List Value → List Value → Prop} : popA 8 (a0 :: a1 :: a2 :: a3 :: a4 :: a5 :: a6 :: a7 :: st) [] F = F [a7, a6, a5, a4, a3, a2, a1, a0] st := rfl
theorem popA_0 {st : List Value} {F : List Value → List Value → Prop} : popA 0 st [] F = F [] st := rfl
section SP
variable {d : DD} {nm : String} {ml : Nat} {ret : Option FieldType} {own : Nat} {cc : ByteArray} {e U : Nat} {Rt : Option Value → HP → Prop} {Th : Nat → HP → Prop} {Xc : Nat → List (Nat × Value) → Nat → HP → Nat → Prop}
variable {pc len : Nat} {L : List (Nat × Value)} {st : List Value} {g : HP} {b : Nat} {K : Nat → List (Nat × Value) → List Value → HP → Nat → Prop}
theorem sp_aconst_null  : stepP d nm ml ret own cc e U Rt Th Xc pc (.aconst_null) len L st g b K = (len = 1 ∧ K (pc + 1) L (.null :: st) g b) := rfl
theorem sp_iconst_m1  : stepP d nm ml ret own cc e U Rt Th Xc pc (.iconst (-1)) len L st g b K = (len = 1 ∧ K (pc + 1) L (.int (-1) :: st) g b) := rfl
theorem sp_iconst_0  : stepP d nm ml ret own cc e U Rt Th Xc pc (.iconst 0) len L st g b K = (len = 1 ∧ K (pc + 1) L (.int 0 :: st) g b) := rfl
theorem sp_iconst_1  : stepP d nm ml ret own cc e U Rt Th Xc pc (.iconst 1) len L st g b K = (len = 1 ∧ K (pc + 1) L (.int 1 :: st) g b) := rfl
theorem sp_iconst_2  : stepP d nm ml ret own cc e U Rt Th Xc pc (.iconst 2) len L st g b K = (len = 1 ∧ K (pc + 1) L (.int 2 :: st) g b) := rfl
theorem sp_iconst_3  : stepP d nm ml ret own cc e U Rt Th Xc pc (.iconst 3) len L st g b K = (len = 1 ∧ K (pc + 1) L (.int 3 :: st) g b) := rfl
theorem sp_iconst_4  : stepP d nm ml ret own cc e U Rt Th Xc pc (.iconst 4) len L st g b K = (len = 1 ∧ K (pc + 1) L (.int 4 :: st) g b) := rfl
theorem sp_iconst_5  : stepP d nm ml ret own cc e U Rt Th Xc pc (.iconst 5) len L st g b K = (len = 1 ∧ K (pc + 1) L (.int 5 :: st) g b) := rfl
theorem sp_bipush_m11  : stepP d nm ml ret own cc e U Rt Th Xc pc (.bipush (-11)) len L st g b K = (len = 2 ∧ K (pc + 2) L (.int (-11) :: st) g b) := rfl
theorem sp_bipush_6  : stepP d nm ml ret own cc e U Rt Th Xc pc (.bipush 6) len L st g b K = (len = 2 ∧ K (pc + 2) L (.int 6 :: st) g b) := rfl
theorem sp_bipush_7  : stepP d nm ml ret own cc e U Rt Th Xc pc (.bipush 7) len L st g b K = (len = 2 ∧ K (pc + 2) L (.int 7 :: st) g b) := rfl
theorem sp_bipush_8  : stepP d nm ml ret own cc e U Rt Th Xc pc (.bipush 8) len L st g b K = (len = 2 ∧ K (pc + 2) L (.int 8 :: st) g b) := rfl
theorem sp_bipush_9  : stepP d nm ml ret own cc e U Rt Th Xc pc (.bipush 9) len L st g b K = (len = 2 ∧ K (pc + 2) L (.int 9 :: st) g b) := rfl
theorem sp_bipush_10  : stepP d nm ml ret own cc e U Rt Th Xc pc (.bipush 10) len L st g b K = (len = 2 ∧ K (pc + 2) L (.int 10 :: st) g b) := rfl
theorem sp_bipush_11  : stepP d nm ml ret own cc e U Rt Th Xc pc (.bipush 11) len L st g b K = (len = 2 ∧ K (pc + 2) L (.int 11 :: st) g b) := rfl
theorem sp_bipush_12  : stepP d nm ml ret own cc e U Rt Th Xc pc (.bipush 12) len L st g b K = (len = 2 ∧ K (pc + 2) L (.int 12 :: st) g b) := rfl
theorem sp_bipush_13  : stepP d nm ml ret own cc e U Rt Th Xc pc (.bipush 13) len L st g b K = (len = 2 ∧ K (pc + 2) L (.int 13 :: st) g b) := rfl
theorem sp_bipush_15  : stepP d nm ml ret own cc e U Rt Th Xc pc (.bipush 15) len L st g b K = (len = 2 ∧ K (pc + 2) L (.int 15 :: st) g b) := rfl
theorem sp_bipush_16  : stepP d nm ml ret own cc e U Rt Th Xc pc (.bipush 16) len L st g b K = (len = 2 ∧ K (pc + 2) L (.int 16 :: st) g b) := rfl
theorem sp_bipush_20  : stepP d nm ml ret own cc e U Rt Th Xc pc (.bipush 20) len L st g b K = (len = 2 ∧ K (pc + 2) L (.int 20 :: st) g b) := rfl
theorem sp_bipush_21  : stepP d nm ml ret own cc e U Rt Th Xc pc (.bipush 21) len L st g b K = (len = 2 ∧ K (pc + 2) L (.int 21 :: st) g b) := rfl
theorem sp_bipush_24  : stepP d nm ml ret own cc e U Rt Th Xc pc (.bipush 24) len L st g b K = (len = 2 ∧ K (pc + 2) L (.int 24 :: st) g b) := rfl
theorem sp_bipush_25  : stepP d nm ml ret own cc e U Rt Th Xc pc (.bipush 25) len L st g b K = (len = 2 ∧ K (pc + 2) L (.int 25 :: st) g b) := rfl
theorem sp_bipush_30  : stepP d nm ml ret own cc e U Rt Th Xc pc (.bipush 30) len L st g b K = (len = 2 ∧ K (pc + 2) L (.int 30 :: st) g b) := rfl
theorem sp_bipush_31  : stepP d nm ml ret own cc e U Rt Th Xc pc (.bipush 31) len L st g b K = (len = 2 ∧ K (pc + 2) L (.int 31 :: st) g b) := rfl
theorem sp_bipush_32  : stepP d nm ml ret own cc e U Rt Th Xc pc (.bipush 32) len L st g b K = (len = 2 ∧ K (pc + 2) L (.int 32 :: st) g b) := rfl
theorem sp_bipush_50  : stepP d nm ml ret own cc e U Rt Th Xc pc (.bipush 50) len L st g b K = (len = 2 ∧ K (pc + 2) L (.int 50 :: st) g b) := rfl
theorem sp_bipush_51  : stepP d nm ml ret own cc e U Rt Th Xc pc (.bipush 51) len L st g b K = (len = 2 ∧ K (pc + 2) L (.int 51 :: st) g b) := rfl
theorem sp_bipush_60  : stepP d nm ml ret own cc e U Rt Th Xc pc (.bipush 60) len L st g b K = (len = 2 ∧ K (pc + 2) L (.int 60 :: st) g b) := rfl
theorem sp_bipush_64  : stepP d nm ml ret own cc e U Rt Th Xc pc (.bipush 64) len L st g b K = (len = 2 ∧ K (pc + 2) L (.int 64 :: st) g b) := rfl
theorem sp_bipush_70  : stepP d nm ml ret own cc e U Rt Th Xc pc (.bipush 70) len L st g b K = (len = 2 ∧ K (pc + 2) L (.int 70 :: st) g b) := rfl
theorem sp_bipush_99  : stepP d nm ml ret own cc e U Rt Th Xc pc (.bipush 99) len L st g b K = (len = 2 ∧ K (pc + 2) L (.int 99 :: st) g b) := rfl
theorem sp_bipush_100  : stepP d nm ml ret own cc e U Rt Th Xc pc (.bipush 100) len L st g b K = (len = 2 ∧ K (pc + 2) L (.int 100 :: st) g b) := rfl
theorem sp_bipush_101  : stepP d nm ml ret own cc e U Rt Th Xc pc (.bipush 101) len L st g b K = (len = 2 ∧ K (pc + 2) L (.int 101 :: st) g b) := rfl
theorem sp_bipush_121  : stepP d nm ml ret own cc e U Rt Th Xc pc (.bipush 121) len L st g b K = (len = 2 ∧ K (pc + 2) L (.int 121 :: st) g b) := rfl
theorem sp_sipush_128  : stepP d nm ml ret own cc e U Rt Th Xc pc (.sipush 128) len L st g b K = (len = 3 ∧ K (pc + 3) L (.int 128 :: st) g b) := rfl
theorem sp_sipush_200  : stepP d nm ml ret own cc e U Rt Th Xc pc (.sipush 200) len L st g b K = (len = 3 ∧ K (pc + 3) L (.int 200 :: st) g b) := rfl
theorem sp_sipush_201  : stepP d nm ml ret own cc e U Rt Th Xc pc (.sipush 201) len L st g b K = (len = 3 ∧ K (pc + 3) L (.int 201 :: st) g b) := rfl
theorem sp_sipush_300  : stepP d nm ml ret own cc e U Rt Th Xc pc (.sipush 300) len L st g b K = (len = 3 ∧ K (pc + 3) L (.int 300 :: st) g b) := rfl
theorem sp_sipush_400  : stepP d nm ml ret own cc e U Rt Th Xc pc (.sipush 400) len L st g b K = (len = 3 ∧ K (pc + 3) L (.int 400 :: st) g b) := rfl
theorem sp_sipush_512  : stepP d nm ml ret own cc e U Rt Th Xc pc (.sipush 512) len L st g b K = (len = 3 ∧ K (pc + 3) L (.int 512 :: st) g b) := rfl
theorem sp_sipush_1000  : stepP d nm ml ret own cc e U Rt Th Xc pc (.sipush 1000) len L st g b K = (len = 3 ∧ K (pc + 3) L (.int 1000 :: st) g b) := rfl
theorem sp_sipush_1001  : stepP d nm ml ret own cc e U Rt Th Xc pc (.sipush 1001) len L st g b K = (len = 3 ∧ K (pc + 3) L (.int 1001 :: st) g b) := rfl
theorem sp_sipush_2048  : stepP d nm ml ret own cc e U Rt Th Xc pc (.sipush 2048) len L st g b K = (len = 3 ∧ K (pc + 3) L (.int 2048 :: st) g b) := rfl
theorem sp_sipush_10000  : stepP d nm ml ret own cc e U Rt Th Xc pc (.sipush 10000) len L st g b K = (len = 3 ∧ K (pc + 3) L (.int 10000 :: st) g b) := rfl
theorem sp_sipush_10001  : stepP d nm ml ret own cc e U Rt Th Xc pc (.sipush 10001) len L st g b K = (len = 3 ∧ K (pc + 3) L (.int 10001 :: st) g b) := rfl
theorem sp_sipush_11801  : stepP d nm ml ret own cc e U Rt Th Xc pc (.sipush 11801) len L st g b K = (len = 3 ∧ K (pc + 3) L (.int 11801 :: st) g b) := rfl
theorem sp_lconst_0  : stepP d nm ml ret own cc e U Rt Th Xc pc (.lconst 0) len L st g b K = (len = 1 ∧ K (pc + 1) L (.long 0 :: st) g b) := rfl
theorem sp_lconst_1  : stepP d nm ml ret own cc e U Rt Th Xc pc (.lconst 1) len L st g b K = (len = 1 ∧ K (pc + 1) L (.long 1 :: st) g b) := rfl
theorem sp_ldc {i : Nat} : stepP d nm ml ret own cc e U Rt Th Xc pc (.ldc i) len L st g b K = (len = 2 ∧ onOpt (ktab own i) (fun v => K (pc + 2) L (.int v :: st) g b)) := rfl
theorem sp_ldc2_w {i : Nat} : stepP d nm ml ret own cc e U Rt Th Xc pc (.ldc2_w i) len L st g b K = (len = 3 ∧ onOpt (ltab own i) (fun v => K (pc + 3) L (.long v :: st) g b)) := rfl
theorem sp_iload {i : Nat} : stepP d nm ml ret own cc e U Rt Th Xc pc (.iload i) len L st g b K = (len = 2 ∧ onOpt (lk L i) (fun v => onInt v (fun x => K (pc + 2) L (.int x :: st) g b))) := rfl
theorem sp_iload_n0  : stepP d nm ml ret own cc e U Rt Th Xc pc (.iload_n 0) len L st g b K = (len = 1 ∧ onOpt (lk L 0) (fun v => onInt v (fun x => K (pc + 1) L (.int x :: st) g b))) := rfl
theorem sp_iload_n1  : stepP d nm ml ret own cc e U Rt Th Xc pc (.iload_n 1) len L st g b K = (len = 1 ∧ onOpt (lk L 1) (fun v => onInt v (fun x => K (pc + 1) L (.int x :: st) g b))) := rfl
theorem sp_iload_n2  : stepP d nm ml ret own cc e U Rt Th Xc pc (.iload_n 2) len L st g b K = (len = 1 ∧ onOpt (lk L 2) (fun v => onInt v (fun x => K (pc + 1) L (.int x :: st) g b))) := rfl
theorem sp_iload_n3  : stepP d nm ml ret own cc e U Rt Th Xc pc (.iload_n 3) len L st g b K = (len = 1 ∧ onOpt (lk L 3) (fun v => onInt v (fun x => K (pc + 1) L (.int x :: st) g b))) := rfl
theorem sp_lload {i : Nat} : stepP d nm ml ret own cc e U Rt Th Xc pc (.lload i) len L st g b K = (len = 2 ∧ onOpt (lk L i) (fun v => onLong v (fun x => K (pc + 2) L (.long x :: st) g b))) := rfl
theorem sp_lload_n0  : stepP d nm ml ret own cc e U Rt Th Xc pc (.lload_n 0) len L st g b K = (len = 1 ∧ onOpt (lk L 0) (fun v => onLong v (fun x => K (pc + 1) L (.long x :: st) g b))) := rfl
theorem sp_lload_n1  : stepP d nm ml ret own cc e U Rt Th Xc pc (.lload_n 1) len L st g b K = (len = 1 ∧ onOpt (lk L 1) (fun v => onLong v (fun x => K (pc + 1) L (.long x :: st) g b))) := rfl
theorem sp_lload_n2  : stepP d nm ml ret own cc e U Rt Th Xc pc (.lload_n 2) len L st g b K = (len = 1 ∧ onOpt (lk L 2) (fun v => onLong v (fun x => K (pc + 1) L (.long x :: st) g b))) := rfl
theorem sp_lload_n3  : stepP d nm ml ret own cc e U Rt Th Xc pc (.lload_n 3) len L st g b K = (len = 1 ∧ onOpt (lk L 3) (fun v => onLong v (fun x => K (pc + 1) L (.long x :: st) g b))) := rfl
theorem sp_aload {i : Nat} : stepP d nm ml ret own cc e U Rt Th Xc pc (.aload i) len L st g b K = (len = 2 ∧ onOpt (lk L i) (fun v => isRefV v ∧ K (pc + 2) L (v :: st) g b)) := rfl
theorem sp_aload_n0  : stepP d nm ml ret own cc e U Rt Th Xc pc (.aload_n 0) len L st g b K = (len = 1 ∧ onOpt (lk L 0) (fun v => isRefV v ∧ K (pc + 1) L (v :: st) g b)) := rfl
theorem sp_aload_n1  : stepP d nm ml ret own cc e U Rt Th Xc pc (.aload_n 1) len L st g b K = (len = 1 ∧ onOpt (lk L 1) (fun v => isRefV v ∧ K (pc + 1) L (v :: st) g b)) := rfl
theorem sp_aload_n2  : stepP d nm ml ret own cc e U Rt Th Xc pc (.aload_n 2) len L st g b K = (len = 1 ∧ onOpt (lk L 2) (fun v => isRefV v ∧ K (pc + 1) L (v :: st) g b)) := rfl
theorem sp_aload_n3  : stepP d nm ml ret own cc e U Rt Th Xc pc (.aload_n 3) len L st g b K = (len = 1 ∧ onOpt (lk L 3) (fun v => isRefV v ∧ K (pc + 1) L (v :: st) g b)) := rfl
theorem sp_istore {i : Nat} : stepP d nm ml ret own cc e U Rt Th Xc pc (.istore i) len L st g b K = (len = 2 ∧ i < ml ∧ p1i st (fun x r => K (pc + 2) ((i, .int x) :: rm1 i L) r g b)) := rfl
theorem sp_istore_n0  : stepP d nm ml ret own cc e U Rt Th Xc pc (.istore_n 0) len L st g b K = (len = 1 ∧ 0 < ml ∧ p1i st (fun x r => K (pc + 1) ((0, .int x) :: rm1 0 L) r g b)) := rfl
theorem sp_istore_n1  : stepP d nm ml ret own cc e U Rt Th Xc pc (.istore_n 1) len L st g b K = (len = 1 ∧ 1 < ml ∧ p1i st (fun x r => K (pc + 1) ((1, .int x) :: rm1 1 L) r g b)) := rfl
theorem sp_istore_n2  : stepP d nm ml ret own cc e U Rt Th Xc pc (.istore_n 2) len L st g b K = (len = 1 ∧ 2 < ml ∧ p1i st (fun x r => K (pc + 1) ((2, .int x) :: rm1 2 L) r g b)) := rfl
theorem sp_istore_n3  : stepP d nm ml ret own cc e U Rt Th Xc pc (.istore_n 3) len L st g b K = (len = 1 ∧ 3 < ml ∧ p1i st (fun x r => K (pc + 1) ((3, .int x) :: rm1 3 L) r g b)) := rfl
theorem sp_lstore {i : Nat} : stepP d nm ml ret own cc e U Rt Th Xc pc (.lstore i) len L st g b K = (len = 2 ∧ i + 1 < ml ∧ p1l st (fun x r => K (pc + 2) ((i, .long x) :: rm2 i L) r g b)) := rfl
theorem sp_lstore_n0  : stepP d nm ml ret own cc e U Rt Th Xc pc (.lstore_n 0) len L st g b K = (len = 1 ∧ 0 + 1 < ml ∧ p1l st (fun x r => K (pc + 1) ((0, .long x) :: rm2 0 L) r g b)) := rfl
theorem sp_lstore_n1  : stepP d nm ml ret own cc e U Rt Th Xc pc (.lstore_n 1) len L st g b K = (len = 1 ∧ 1 + 1 < ml ∧ p1l st (fun x r => K (pc + 1) ((1, .long x) :: rm2 1 L) r g b)) := rfl
theorem sp_lstore_n2  : stepP d nm ml ret own cc e U Rt Th Xc pc (.lstore_n 2) len L st g b K = (len = 1 ∧ 2 + 1 < ml ∧ p1l st (fun x r => K (pc + 1) ((2, .long x) :: rm2 2 L) r g b)) := rfl
theorem sp_lstore_n3  : stepP d nm ml ret own cc e U Rt Th Xc pc (.lstore_n 3) len L st g b K = (len = 1 ∧ 3 + 1 < ml ∧ p1l st (fun x r => K (pc + 1) ((3, .long x) :: rm2 3 L) r g b)) := rfl
theorem sp_astore {i : Nat} : stepP d nm ml ret own cc e U Rt Th Xc pc (.astore i) len L st g b K = (len = 2 ∧ i < ml ∧ p1v st (fun v r => isRefV v ∧ K (pc + 2) ((i, v) :: rm1 i L) r g b)) := rfl
theorem sp_astore_n0  : stepP d nm ml ret own cc e U Rt Th Xc pc (.astore_n 0) len L st g b K = (len = 1 ∧ 0 < ml ∧ p1v st (fun v r => isRefV v ∧ K (pc + 1) ((0, v) :: rm1 0 L) r g b)) := rfl
theorem sp_astore_n1  : stepP d nm ml ret own cc e U Rt Th Xc pc (.astore_n 1) len L st g b K = (len = 1 ∧ 1 < ml ∧ p1v st (fun v r => isRefV v ∧ K (pc + 1) ((1, v) :: rm1 1 L) r g b)) := rfl
theorem sp_astore_n2  : stepP d nm ml ret own cc e U Rt Th Xc pc (.astore_n 2) len L st g b K = (len = 1 ∧ 2 < ml ∧ p1v st (fun v r => isRefV v ∧ K (pc + 1) ((2, v) :: rm1 2 L) r g b)) := rfl
theorem sp_astore_n3  : stepP d nm ml ret own cc e U Rt Th Xc pc (.astore_n 3) len L st g b K = (len = 1 ∧ 3 < ml ∧ p1v st (fun v r => isRefV v ∧ K (pc + 1) ((3, v) :: rm1 3 L) r g b)) := rfl
theorem sp_iinc_1 {i : Nat} : stepP d nm ml ret own cc e U Rt Th Xc pc (.iinc i 1) len L st g b K = (len = 3 ∧ i < ml ∧ onOpt (lk L i) (fun v => onInt v (fun x => K (pc + 3) ((i, .int (x + 1)) :: rm1 i L) st g b))) := rfl
theorem sp_iinc_2 {i : Nat} : stepP d nm ml ret own cc e U Rt Th Xc pc (.iinc i 2) len L st g b K = (len = 3 ∧ i < ml ∧ onOpt (lk L i) (fun v => onInt v (fun x => K (pc + 3) ((i, .int (x + 2)) :: rm1 i L) st g b))) := rfl
theorem sp_pop  : stepP d nm ml ret own cc e U Rt Th Xc pc (.pop) len L st g b K = (len = 1 ∧ p1v st (fun v r => v.category = 1 ∧ K (pc + 1) L r g b)) := rfl
theorem sp_dup  : stepP d nm ml ret own cc e U Rt Th Xc pc (.dup) len L st g b K = (len = 1 ∧ p1v st (fun v r => v.category = 1 ∧ K (pc + 1) L (v :: v :: r) g b)) := rfl
theorem sp_dup2  : stepP d nm ml ret own cc e U Rt Th Xc pc (.dup2) len L st g b K = (len = 1 ∧ p1v st (fun v r0 => p1v r0 (fun w r => v.category = 1 ∧ w.category = 1 ∧ K (pc + 1) L (v :: w :: v :: w :: r) g b))) := rfl
theorem sp_iadd  : stepP d nm ml ret own cc e U Rt Th Xc pc (.iadd) len L st g b K = (len = 1 ∧ p2i st (fun x y r => K (pc + 1) L (.int (x + y) :: r) g b)) := rfl
theorem sp_isub  : stepP d nm ml ret own cc e U Rt Th Xc pc (.isub) len L st g b K = (len = 1 ∧ p2i st (fun x y r => K (pc + 1) L (.int (x - y) :: r) g b)) := rfl
theorem sp_imul  : stepP d nm ml ret own cc e U Rt Th Xc pc (.imul) len L st g b K = (len = 1 ∧ p2i st (fun x y r => K (pc + 1) L (.int (x * y) :: r) g b)) := rfl
theorem sp_iand  : stepP d nm ml ret own cc e U Rt Th Xc pc (.iand) len L st g b K = (len = 1 ∧ p2i st (fun x y r => K (pc + 1) L (.int (x &&& y) :: r) g b)) := rfl
theorem sp_ixor  : stepP d nm ml ret own cc e U Rt Th Xc pc (.ixor) len L st g b K = (len = 1 ∧ p2i st (fun x y r => K (pc + 1) L (.int (x ^^^ y) :: r) g b)) := rfl
theorem sp_ior  : stepP d nm ml ret own cc e U Rt Th Xc pc (.ior) len L st g b K = (len = 1 ∧ p2i st (fun x y r => K (pc + 1) L (.int (x ||| y) :: r) g b)) := rfl
theorem sp_ishl  : stepP d nm ml ret own cc e U Rt Th Xc pc (.ishl) len L st g b K = (len = 1 ∧ p2i st (fun x y r => K (pc + 1) L (.int (x <<< (y &&& 31)) :: r) g b)) := rfl
theorem sp_idiv  : stepP d nm ml ret own cc e U Rt Th Xc pc (.idiv) len L st g b K = (len = 1 ∧ p2i st (fun x y r => ¬ y = 0 ∧ K (pc + 1) L (.int (x / y) :: r) g b)) := rfl
theorem sp_irem  : stepP d nm ml ret own cc e U Rt Th Xc pc (.irem) len L st g b K = (len = 1 ∧ p2i st (fun x y r => ¬ y = 0 ∧ K (pc + 1) L (.int (x - x / y * y) :: r) g b)) := rfl
theorem sp_ineg  : stepP d nm ml ret own cc e U Rt Th Xc pc (.ineg) len L st g b K = (len = 1 ∧ p1i st (fun x r => K (pc + 1) L (.int (-x) :: r) g b)) := rfl
theorem sp_ladd  : stepP d nm ml ret own cc e U Rt Th Xc pc (.ladd) len L st g b K = (len = 1 ∧ p2l st (fun x y r => K (pc + 1) L (.long (x + y) :: r) g b)) := rfl
theorem sp_lsub  : stepP d nm ml ret own cc e U Rt Th Xc pc (.lsub) len L st g b K = (len = 1 ∧ p2l st (fun x y r => K (pc + 1) L (.long (x - y) :: r) g b)) := rfl
theorem sp_lmul  : stepP d nm ml ret own cc e U Rt Th Xc pc (.lmul) len L st g b K = (len = 1 ∧ p2l st (fun x y r => K (pc + 1) L (.long (x * y) :: r) g b)) := rfl
theorem sp_ldiv  : stepP d nm ml ret own cc e U Rt Th Xc pc (.ldiv) len L st g b K = (len = 1 ∧ p2l st (fun x y r => ¬ y = 0 ∧ K (pc + 1) L (.long (x / y) :: r) g b)) := rfl
theorem sp_lrem  : stepP d nm ml ret own cc e U Rt Th Xc pc (.lrem) len L st g b K = (len = 1 ∧ p2l st (fun x y r => ¬ y = 0 ∧ K (pc + 1) L (.long (x - x / y * y) :: r) g b)) := rfl
theorem sp_lneg  : stepP d nm ml ret own cc e U Rt Th Xc pc (.lneg) len L st g b K = (len = 1 ∧ p1l st (fun x r => K (pc + 1) L (.long (-x) :: r) g b)) := rfl
theorem sp_lcmp  : stepP d nm ml ret own cc e U Rt Th Xc pc (.lcmp) len L st g b K = (len = 1 ∧ p2l st (fun x y r => K (pc + 1) L (.int (lg_cmp x y) :: r) g b)) := rfl
theorem sp_i2l  : stepP d nm ml ret own cc e U Rt Th Xc pc (.i2l) len L st g b K = (len = 1 ∧ p1i st (fun x r => K (pc + 1) L (.long x.toInt64 :: r) g b)) := rfl
theorem sp_l2i  : stepP d nm ml ret own cc e U Rt Th Xc pc (.l2i) len L st g b K = (len = 1 ∧ p1l st (fun x r => K (pc + 1) L (.int x.toInt32 :: r) g b)) := rfl
theorem sp_ifCond_eq {o : Int} : stepP d nm ml ret own cc e U Rt Th Xc pc (.ifCond .eq o) len L st g b K = (len = 3 ∧ p1i st (fun x r => jmp pc o (fun t => (x = 0 → K t L r g b) ∧ (¬ x = 0 → K (pc + 3) L r g b)))) := rfl
theorem sp_ifCond_ne {o : Int} : stepP d nm ml ret own cc e U Rt Th Xc pc (.ifCond .ne o) len L st g b K = (len = 3 ∧ p1i st (fun x r => jmp pc o (fun t => (x = 0 → K (pc + 3) L r g b) ∧ (¬ x = 0 → K t L r g b)))) := rfl
theorem sp_ifCond_lt {o : Int} : stepP d nm ml ret own cc e U Rt Th Xc pc (.ifCond .lt o) len L st g b K = (len = 3 ∧ p1i st (fun x r => jmp pc o (fun t => (x < 0 → K t L r g b) ∧ (¬ x < 0 → K (pc + 3) L r g b)))) := rfl
theorem sp_ifCond_ge {o : Int} : stepP d nm ml ret own cc e U Rt Th Xc pc (.ifCond .ge o) len L st g b K = (len = 3 ∧ p1i st (fun x r => jmp pc o (fun t => (x < 0 → K (pc + 3) L r g b) ∧ (¬ x < 0 → K t L r g b)))) := rfl
theorem sp_ifCond_gt {o : Int} : stepP d nm ml ret own cc e U Rt Th Xc pc (.ifCond .gt o) len L st g b K = (len = 3 ∧ p1i st (fun x r => jmp pc o (fun t => (0 < x → K t L r g b) ∧ (¬ 0 < x → K (pc + 3) L r g b)))) := rfl
theorem sp_ifCond_le {o : Int} : stepP d nm ml ret own cc e U Rt Th Xc pc (.ifCond .le o) len L st g b K = (len = 3 ∧ p1i st (fun x r => jmp pc o (fun t => (0 < x → K (pc + 3) L r g b) ∧ (¬ 0 < x → K t L r g b)))) := rfl
theorem sp_if_icmp_eq {o : Int} : stepP d nm ml ret own cc e U Rt Th Xc pc (.if_icmp .eq o) len L st g b K = (len = 3 ∧ p2i st (fun x y r => jmp pc o (fun t => (x = y → K t L r g b) ∧ (¬ x = y → K (pc + 3) L r g b)))) := rfl
theorem sp_if_icmp_ne {o : Int} : stepP d nm ml ret own cc e U Rt Th Xc pc (.if_icmp .ne o) len L st g b K = (len = 3 ∧ p2i st (fun x y r => jmp pc o (fun t => (x = y → K (pc + 3) L r g b) ∧ (¬ x = y → K t L r g b)))) := rfl
theorem sp_if_icmp_lt {o : Int} : stepP d nm ml ret own cc e U Rt Th Xc pc (.if_icmp .lt o) len L st g b K = (len = 3 ∧ p2i st (fun x y r => jmp pc o (fun t => (x < y → K t L r g b) ∧ (¬ x < y → K (pc + 3) L r g b)))) := rfl
theorem sp_if_icmp_ge {o : Int} : stepP d nm ml ret own cc e U Rt Th Xc pc (.if_icmp .ge o) len L st g b K = (len = 3 ∧ p2i st (fun x y r => jmp pc o (fun t => (x < y → K (pc + 3) L r g b) ∧ (¬ x < y → K t L r g b)))) := rfl
theorem sp_if_icmp_gt {o : Int} : stepP d nm ml ret own cc e U Rt Th Xc pc (.if_icmp .gt o) len L st g b K = (len = 3 ∧ p2i st (fun x y r => jmp pc o (fun t => (y < x → K t L r g b) ∧ (¬ y < x → K (pc + 3) L r g b)))) := rfl
theorem sp_if_icmp_le {o : Int} : stepP d nm ml ret own cc e U Rt Th Xc pc (.if_icmp .le o) len L st g b K = (len = 3 ∧ p2i st (fun x y r => jmp pc o (fun t => (y < x → K (pc + 3) L r g b) ∧ (¬ y < x → K t L r g b)))) := rfl
theorem sp_ifnull {o : Int} : stepP d nm ml ret own cc e U Rt Th Xc pc (.ifnull o) len L st g b K = (len = 3 ∧ p1n st (fun v r => (v = none → jmp pc o (fun t => K t L r g b)) ∧ (∀ a, v = some a → K (pc + 3) L r g b))) := rfl
theorem sp_ifnonnull {o : Int} : stepP d nm ml ret own cc e U Rt Th Xc pc (.ifnonnull o) len L st g b K = (len = 3 ∧ p1n st (fun v r => (v = none → K (pc + 3) L r g b) ∧ (∀ a, v = some a → jmp pc o (fun t => K t L r g b)))) := rfl
theorem sp_goto {o : Int} : stepP d nm ml ret own cc e U Rt Th Xc pc (.goto o) len L st g b K = (len = 3 ∧ jmp pc o (fun t => K t L st g b)) := rfl
theorem sp_tableswitch {df lo hi : Int} {offs : Array Int} : stepP d nm ml ret own cc e U Rt Th Xc pc (.tableswitch df lo hi offs) len L st g b K = (p1i st (fun x r => (hi = lo + offs.size - 1 ∧ jmp pc df (fun t => x.toInt < lo ∨ hi < x.toInt → K t L r g b)) ∧ swAll (fun i o => x.toInt = i → jmp pc o (fun t => K t L r g b)) lo offs.toList)) := rfl
theorem sp_getfield {i : Nat} : stepP d nm ml ret own cc e U Rt Th Xc pc (.getfield i) len L st g b K = (len = 3 ∧ onOpt (ftab own i) (fun f => p1r st (fun a r => onObj (g a) (fun ci fs => ci = f.1 ∧ onOpt (fs[f.2.1]?) (fun v => K (pc + 3) L (v :: r) g b))))) := rfl
def pfV (f : Nat) (v : Value) : Prop := match f with | 0 => ∃ x, v = .int x | _ => isRefV v
theorem pfV_i {x : Int32} : pfV 0 (.int x) = True := exInt
theorem pfV_r {a : Nat} : pfV 1 (.ref a) = True := isRefV_r
theorem pfV_n : pfV 1 .null = True := isRefV_n
theorem pfV_rf {v : Option Nat} : pfV 1 (va_rf v) = True := isRefV_rf
theorem sp_putfield {i : Nat} : stepP d nm ml ret own cc e U Rt Th Xc pc (.putfield i) len L st g b K = (len = 3 ∧ onOpt (ftab own i) (fun f => p1v st (fun v r0 => p1r r0 (fun a r => pfV f.2.2.2.1 v ∧ (f.2.2.2.2 = 0 ∨ (nm = "<init>" ∧ f.2.2.1 = 0)) ∧ onObj (g a) (fun ci fs => ci = f.1 ∧ f.2.1 < fs.length ∧ K (pc + 3) L r (hup g a (hO f.1 (fs.set f.2.1 v))) b))))) := rfl
theorem sp_arraylength  : stepP d nm ml ret own cc e U Rt Th Xc pc (.arraylength) len L st g b K = (len = 1 ∧ p1r st (fun a r => onLen (g a) (fun n => K (pc + 1) L (.int (Int32.ofNat n) :: r) g b))) := rfl
theorem sp_iaload  : stepP d nm ml ret own cc e U Rt Th Xc pc (.iaload) len L st g b K = (len = 1 ∧ p1i st (fun i r0 => p1r r0 (fun a r => onI (g a) (fun t n f => t = 0 ∧ vp_in i n ∧ K (pc + 1) L (.int (f i.toNatClampNeg) :: r) g b)))) := rfl
theorem sp_baload  : stepP d nm ml ret own cc e U Rt Th Xc pc (.baload) len L st g b K = (len = 1 ∧ p1i st (fun i r0 => p1r r0 (fun a r => onI (g a) (fun t n f => t = 2 ∧ vp_in i n ∧ K (pc + 1) L (.int (f i.toNatClampNeg) :: r) g b)))) := rfl
theorem sp_aaload  : stepP d nm ml ret own cc e U Rt Th Xc pc (.aaload) len L st g b K = (len = 1 ∧ p1i st (fun i r0 => p1r r0 (fun a r => onR (g a) (fun t n f => (3 ≤ t ∧ t < 7) ∧ vp_in i n ∧ ((f i.toNatClampNeg = none → K (pc + 1) L (.null :: r) g b) ∧ (∀ q, f i.toNatClampNeg = some q → K (pc + 1) L (.ref q :: r) g b)))))) := rfl
theorem sp_iastore  : stepP d nm ml ret own cc e U Rt Th Xc pc (.iastore) len L st g b K = (len = 1 ∧ p1i st (fun x r1 => p1i r1 (fun i r0 => p1r r0 (fun a r => onI (g a) (fun t n f => t = 0 ∧ vp_in i n ∧ K (pc + 1) L r (hup g a (hI 0 n (upd f i.toNatClampNeg x))) b))))) := rfl
theorem sp_bastore  : stepP d nm ml ret own cc e U Rt Th Xc pc (.bastore) len L st g b K = (len = 1 ∧ p1i st (fun x r1 => p1i r1 (fun i r0 => p1r r0 (fun a r => onI (g a) (fun t n f => t = 2 ∧ (x = 0 ∨ x = 1) ∧ vp_in i n ∧ K (pc + 1) L r (hup g a (hI 2 n (upd f i.toNatClampNeg x))) b))))) := rfl
theorem sp_aastore  : stepP d nm ml ret own cc e U Rt Th Xc pc (.aastore) len L st g b K = (len = 1 ∧ p1r st (fun v r1 => p1i r1 (fun i r0 => p1r r0 (fun a r => onR (g a) (fun t n f => onObj (g v) (fun ci _ => ((t = 3 ∧ ci = 1) ∨ (t = 4 ∧ ci = 2) ∨ (t = 5 ∧ ci = 5) ∨ (t = 6 ∧ ci = 4)) ∧ vp_in i n ∧ K (pc + 1) L r (hup g a (hR t n (va_up f i.toNatClampNeg (some v)))) b)))))) := rfl
theorem sp_newarray_int  : stepP d nm ml ret own cc e U Rt Th Xc pc (.newarray .int) len L st g b K = (len = 2 ∧ p1i st (fun n r => ¬ n < 0 ∧ n.toNatClampNeg ≤ 65536 ∧ b + (n.toNatClampNeg / 12 + 1) ≤ U ∧ ∀ q, g q = none → K (pc + 2) L (.ref q :: r) (hup g q (hI 0 n.toNatClampNeg (fun _ => 0))) (b + (n.toNatClampNeg / 12 + 1)))) := rfl
theorem sp_newarray_boolean  : stepP d nm ml ret own cc e U Rt Th Xc pc (.newarray .boolean) len L st g b K = (len = 2 ∧ p1i st (fun n r => ¬ n < 0 ∧ n.toNatClampNeg ≤ 65536 ∧ b + (n.toNatClampNeg / 12 + 1) ≤ U ∧ ∀ q, g q = none → K (pc + 2) L (.ref q :: r) (hup g q (hI 2 n.toNatClampNeg (fun _ => 0))) (b + (n.toNatClampNeg / 12 + 1)))) := rfl
theorem sp_anewarray {i : Nat} : stepP d nm ml ret own cc e U Rt Th Xc pc (.anewarray i) len L st g b K = (len = 3 ∧ onOpt (atab own i) (fun t => p1i st (fun n r => ¬ n < 0 ∧ n.toNatClampNeg ≤ 65536 ∧ b + (n.toNatClampNeg / 12 + 1) ≤ U ∧ ∀ q, g q = none → K (pc + 3) L (.ref q :: r) (hup g q (hR t n.toNatClampNeg (fun _ => none))) (b + (n.toNatClampNeg / 12 + 1))))) := rfl
def onX (o : Option (Nat × Nat)) (F : Nat × Nat → Prop) (G : Prop) : Prop := match o with | some x => F x | none => G
theorem onX_s {x : Nat × Nat} {F : Nat × Nat → Prop} {G : Prop} : onX (some x) F G = F x := rfl
theorem onX_n {F : Nat × Nat → Prop} {G : Prop} : onX none F G = G := rfl
theorem sp_new {i : Nat} : stepP d nm ml ret own cc e U Rt Th Xc pc (.new i) len L st g b K = (len = 3 ∧ onX (xtab own i) (fun x => st = [] ∧ b + 1 ≤ U ∧ Th x.2 g ∧ decode cc (pc + 3) = .ok (.dup, 1) ∧ thr4 (decode cc (pc + 4)) (fun is => stab is = true ∧ decode cc (pc + 6) = .ok (.invokespecial x.1, 3) ∧ decode cc (pc + 9) = .ok (.athrow, 1)) (fun is => stab is = true ∧ decode cc (pc + 7) = .ok (.invokespecial x.1, 3) ∧ decode cc (pc + 10) = .ok (.athrow, 1))) (onOpt (ctab own i) (fun ci => b + 3 ≤ U ∧ ∀ q, g q = none → K (pc + 3) L (.ref q :: st) (hup g q (hO ci (dfl ci))) (b + 3)))) := by
  have h : stepP d nm ml ret own cc e U Rt Th Xc pc (.new i) len L st g b K = (len = 3 ∧ (match xtab own i with | some x => st = [] ∧ b + 1 ≤ U ∧ Th x.2 g ∧ decode cc (pc + 3) = .ok (.dup, 1) ∧ thr4 (decode cc (pc + 4)) (fun is => stab is = true ∧ decode cc (pc + 6) = .ok (.invokespecial x.1, 3) ∧ decode cc (pc + 9) = .ok (.athrow, 1)) (fun is => stab is = true ∧ decode cc (pc + 7) = .ok (.invokespecial x.1, 3) ∧ decode cc (pc + 10) = .ok (.athrow, 1)) | none => onOpt (ctab own i) (fun ci => b + 3 ≤ U ∧ ∀ q, g q = none → K (pc + 3) L (.ref q :: st) (hup g q (hO ci (dfl ci))) (b + 3)))) := rfl
  rw [h]; cases xtab own i <;> rfl
theorem sp_invokestatic {i : Nat} : stepP d nm ml ret own cc e U Rt Th Xc pc (.invokestatic i) len L st g b K = (len = 3 ∧ onOpt (mtab own i) (fun mk => (mk.2.1 = 0 ∨ mk.2.1 = 3 ∨ mk.2.1 = 5) ∧ popA mk.2.2.2 st [] (fun As rest => (rest.map fun v => v.category).sum ≤ 8 ∧ ∃ e2 u2, e2 < e ∧ b + u2 ≤ U ∧ Ct d mk.1 e2 u2 As g (fun o g2 => onOut o (fun v => K (pc + 3) L (v.toList ++ rest) g2 (b + u2)) (fun x => x < 3 → Xc pc L x g2 (b + u2)))))) := rfl
theorem sp_invokevirtual {i : Nat} : stepP d nm ml ret own cc e U Rt Th Xc pc (.invokevirtual i) len L st g b K = (len = 3 ∧ onOpt (mtab own i) (fun mk => mk.2.1 = 1 ∧ popA (mk.2.2.2 + 1) st [] (fun As rest => (rest.map fun v => v.category).sum ≤ 8 ∧ p1r As (fun a As2 => onObj (g a) (fun ci _ => ci = mk.2.2.1 ∧ ∃ e2 u2, e2 < e ∧ b + u2 ≤ U ∧ Ct d mk.1 e2 u2 (.ref a :: As2) g (fun o g2 => onOut o (fun v => K (pc + 3) L (v.toList ++ rest) g2 (b + u2)) (fun x => x < 3 → Xc pc L x g2 (b + u2)))))))) := rfl
def onB (c : Bool) (F G : Prop) : Prop := match c with | true => F | false => G
theorem onB_t {F G : Prop} : onB true F G = F := rfl
theorem onB_f {F G : Prop} : onB false F G = G := rfl
theorem sp_invokespecial {i : Nat} : stepP d nm ml ret own cc e U Rt Th Xc pc (.invokespecial i) len L st g b K = (len = 3 ∧ onB (otab own i) (p1r st (fun _ r => (r.map fun v => v.category).sum ≤ 8 ∧ K (pc + 3) L r g b)) (onOpt (mtab own i) (fun mk => (mk.2.1 = 2 ∨ mk.2.1 = 4) ∧ popA (mk.2.2.2 + 1) st [] (fun As rest => (rest.map fun v => v.category).sum ≤ 8 ∧ p1r As (fun a As2 => ∃ e2 u2, e2 < e ∧ b + u2 ≤ U ∧ Ct d mk.1 e2 u2 (.ref a :: As2) g (fun o g2 => onOut o (fun v => K (pc + 3) L (v.toList ++ rest) g2 (b + u2)) (fun x => x < 3 → Xc pc L x g2 (b + u2)))))))) := by
  have h : stepP d nm ml ret own cc e U Rt Th Xc pc (.invokespecial i) len L st g b K = (len = 3 ∧ (match otab own i with | true => p1r st (fun _ r => (r.map fun v => v.category).sum ≤ 8 ∧ K (pc + 3) L r g b) | false => onOpt (mtab own i) (fun mk => (mk.2.1 = 2 ∨ mk.2.1 = 4) ∧ popA (mk.2.2.2 + 1) st [] (fun As rest => (rest.map fun v => v.category).sum ≤ 8 ∧ p1r As (fun a As2 => ∃ e2 u2, e2 < e ∧ b + u2 ≤ U ∧ Ct d mk.1 e2 u2 (.ref a :: As2) g (fun o g2 => onOut o (fun v => K (pc + 3) L (v.toList ++ rest) g2 (b + u2)) (fun x => x < 3 → Xc pc L x g2 (b + u2)))))))) := rfl
  rw [h]; cases otab own i <;> rfl
def rtI (ret : Option FieldType) (x : Int32) : Prop := match ret with | some .int => True | some .boolean => x = 0 ∨ x = 1 | _ => False
theorem rtI_i {x : Int32} : rtI (some .int) x = True := rfl
theorem rtI_b {x : Int32} : rtI (some .boolean) x = (x = 0 ∨ x = 1) := rfl
theorem sp_ireturn  : stepP d nm ml ret own cc e U Rt Th Xc pc (.ireturn) len L st g b K = (len = 1 ∧ p1i st (fun x r => r = [] ∧ b ≤ U ∧ rtI ret x ∧ Rt (some (.int x)) g)) := rfl
theorem sp_lreturn  : stepP d nm ml ret own cc e U Rt Th Xc pc (.lreturn) len L st g b K = (len = 1 ∧ p1l st (fun x r => r = [] ∧ b ≤ U ∧ ret = some .long ∧ Rt (some (.long x)) g)) := rfl
def rtA (ret : Option FieldType) : Prop := match ret with | some (.object _) => True | _ => False
theorem rtA_s {n : String} : rtA (some (.object n)) = True := rfl
theorem sp_areturn  : stepP d nm ml ret own cc e U Rt Th Xc pc (.areturn) len L st g b K = (len = 1 ∧ p1v st (fun v r => r = [] ∧ b ≤ U ∧ isRefV v ∧ rtA ret ∧ Rt (some v) g)) := rfl
theorem sp_return_  : stepP d nm ml ret own cc e U Rt Th Xc pc (.return_) len L st g b K = (len = 1 ∧ st = [] ∧ b ≤ U ∧ ret = none ∧ Rt none g) := rfl
end SP
theorem mt_6_29 : mtab 6 29 = some (mX0_init, 2, 0, 0) := rfl
theorem mt_6_42 : mtab 6 42 = some (mX3_init, 4, 3, 0) := rfl
theorem mt_6_47 : mtab 6 47 = some (mX1_init, 4, 1, 0) := rfl
theorem mt_6_48 : mtab 6 48 = some (mX6_fibreAt, 1, 6, 1) := rfl
theorem mt_6_52 : mtab 6 52 = some (mX6_checkRange, 0, 6, 3) := rfl
theorem mt_6_63 : mtab 6 63 = some (mX6_checkRoomForLine, 1, 6, 0) := rfl
theorem mt_6_66 : mtab 6 66 = some (mX2_spunOf, 0, 2, 4) := rfl
theorem mt_6_70 : mtab 6 70 = some (mX6_keepLine, 1, 6, 1) := rfl
theorem mt_6_74 : mtab 6 74 = some (mX6_lineAt, 1, 6, 1) := rfl
theorem mt_6_78 : mtab 6 78 = some (mX6_checkUnlike, 0, 6, 2) := rfl
theorem mt_6_82 : mtab 6 82 = some (mX2_isWhole, 1, 2, 0) := rfl
theorem mt_6_86 : mtab 6 86 = some (mX6_checkState, 0, 6, 1) := rfl
theorem mt_6_90 : mtab 6 90 = some (mX2_isOfKindAndHandOf, 1, 2, 1) := rfl
theorem mt_6_97 : mtab 6 97 = some (mX2_laidLength, 0, 2, 4) := rfl
theorem mt_6_101 : mtab 6 101 = some (mX2_laidOf, 0, 2, 4) := rfl
theorem mt_6_106 : mtab 6 106 = some (mX2_canBeWorked, 1, 2, 0) := rfl
theorem mt_6_109 : mtab 6 109 = some (mX2_cutOff, 1, 2, 1) := rfl
theorem mt_6_112 : mtab 6 112 = some (mX6_shortestStock, 1, 6, 2) := rfl
theorem mt_6_116 : mtab 6 116 = some (mX2_splicedLength, 0, 2, 3) := rfl
theorem mt_6_120 : mtab 6 120 = some (mX2_splicedOf, 0, 2, 3) := rfl
theorem mt_6_125 : mtab 6 125 = some (mX2_carry, 1, 2, 1) := rfl
theorem mt_6_135 : mtab 6 135 = some (mX2_wear, 1, 2, 1) := rfl
theorem mt_6_138 : mtab 6 138 = some (mX2_told, 1, 2, 1) := rfl
theorem mt_6_142 : mtab 6 142 = some (mX6_yarnsIn, 0, 6, 2) := rfl
theorem mt_6_149 : mtab 6 149 = some (mX5_init, 2, 5, 3) := rfl
theorem mt_6_152 : mtab 6 152 = some (mX6_keepRig, 1, 6, 1) := rfl
theorem mt_6_156 : mtab 6 156 = some (mX6_rigAt, 1, 6, 1) := rfl
theorem mt_6_160 : mtab 6 160 = some (mX5_pullFor, 1, 5, 1) := rfl
theorem mt_6_163 : mtab 6 163 = some (mX5_mayBear, 1, 5, 1) := rfl
theorem mt_6_177 : mtab 6 177 = some (mJ9_min_f86c9, 0, 99, 2) := rfl
theorem mt_6_186 : mtab 6 186 = some (mX0_begin, 1, 0, 1) := rfl
theorem mt_6_192 : mtab 6 192 = some (mX6_checkIndex, 0, 6, 2) := rfl
theorem mt_6_195 : mtab 6 195 = some (mX0_addCrossing, 1, 0, 2) := rfl
theorem mt_6_199 : mtab 6 199 = some (mX0_carrierAt, 1, 0, 1) := rfl
theorem mt_6_202 : mtab 6 202 = some (mX0_orderByCycles, 1, 0, 0) := rfl
theorem mt_6_206 : mtab 6 206 = some (mX0_orderByBraiding, 1, 0, 0) := rfl
theorem mt_6_209 : mtab 6 209 = some (mX0_timesOver, 1, 0, 2) := rfl
theorem mt_6_216 : mtab 6 216 = some (mX4_init, 2, 4, 2) := rfl
theorem mt_6_218 : mtab 6 218 = some (mX6_keepNet, 1, 6, 1) := rfl
theorem mt_6_222 : mtab 6 222 = some (mX6_netAt, 1, 6, 1) := rfl
theorem mt_6_226 : mtab 6 226 = some (mX4_hasBarBelow, 1, 4, 3) := rfl
theorem mt_6_237 : mtab 6 237 = some (mX4_tearBar, 1, 4, 2) := rfl
theorem mt_6_244 : mtab 6 244 = some (mX4_tearWithin, 1, 4, 4) := rfl
theorem mt_6_248 : mtab 6 248 = some (mX3_fewestTwines, 1, 3, 1) := rfl
theorem mt_6_251 : mtab 6 251 = some (mX3_layTwineAfterTwine, 1, 3, 1) := rfl
theorem mt_6_254 : mtab 6 254 = some (mX4_layAllAgain, 1, 4, 0) := rfl
theorem mt_6_257 : mtab 6 257 = some (mX6_quotient, 0, 6, 2) := rfl
theorem mt_6_260 : mtab 6 260 = some (mX6_rootOf, 0, 6, 1) := rfl
theorem mt_6_288 : mtab 6 288 = some (mX2_throughCutsAndSplices, 1, 2, 0) := rfl
theorem mt_6_301 : mtab 6 301 = some (mJ9_floorDiv_7cf53, 0, 99, 2) := rfl
theorem mt_0_24 : mtab 0 24 = some (mX0_begin, 1, 0, 1) := rfl
theorem mt_0_35 : mtab 0 35 = some (mX0_putHome, 0, 0, 1) := rfl
theorem mt_0_39 : mtab 0 39 = some (mJ7_fill_53178, 0, 99, 2) := rfl
theorem mt_0_45 : mtab 0 45 = some (mX0_carrierAt, 1, 0, 1) := rfl
theorem mt_0_48 : mtab 0 48 = some (mX0_addOver, 1, 0, 3) := rfl
theorem mt_0_52 : mtab 0 52 = some (mX0_change, 0, 0, 2) := rfl
theorem mt_0_55 : mtab 0 55 = some (mX0_cycleThrough, 1, 0, 1) := rfl
theorem mt_0_58 : mtab 0 58 = some (mX0_leastMultiple, 0, 0, 2) := rfl
theorem mt_0_62 : mtab 0 62 = some (mX0_braidOnce, 1, 0, 0) := rfl
theorem mt_0_65 : mtab 0 65 = some (mX0_isHome, 0, 0, 1) := rfl
theorem mt_1_16 : mtab 1 16 = some (mJ9_abs_0f7a4, 0, 99, 1) := rfl
theorem mt_1_22 : mtab 1 22 = some (mJ9_max_7cf53, 0, 99, 2) := rfl
theorem mt_1_26 : mtab 1 26 = some (mX6_quotient, 3, 6, 2) := rfl
theorem mt_2_24 : mtab 2 24 = some (mX2_init, 2, 2, 3) := rfl
theorem mt_2_27 : mtab 2 27 = some (mX1_yarnStrength, 1, 1, 1) := rfl
theorem mt_2_39 : mtab 2 39 = some (mX2_turned, 1, 2, 1) := rfl
theorem mt_2_45 : mtab 2 45 = some (mJ9_min_7cf53, 0, 99, 2) := rfl
theorem mt_2_51 : mtab 2 51 = some (mX2_laidLength, 0, 2, 4) := rfl
theorem mt_2_55 : mtab 2 55 = some (mX2_bears, 1, 2, 0) := rfl
theorem mt_2_69 : mtab 2 69 = some (mX2_splicedLength, 0, 2, 3) := rfl
theorem mt_2_73 : mtab 2 73 = some (mJ9_max_7cf53, 0, 99, 2) := rfl
theorem mt_2_79 : mtab 2 79 = some (mJ9_abs_0f7a4, 0, 99, 1) := rfl
theorem mt_2_82 : mtab 2 82 = some (mX2_isWhole, 1, 2, 0) := rfl
theorem mt_2_86 : mtab 2 86 = some (mX2_isBalanced, 1, 2, 0) := rfl
theorem mt_2_89 : mtab 2 89 = some (mX6_quotient, 3, 6, 2) := rfl
theorem mt_2_92 : mtab 2 92 = some (mX2_wear, 1, 2, 1) := rfl
theorem mt_3_22 : mtab 3 22 = some (mX4_isTorn, 1, 4, 1) := rfl
theorem mt_3_28 : mtab 3 28 = some (mX3_barOn, 0, 3, 2) := rfl
theorem mt_3_32 : mtab 3 32 = some (mX3_isBarLeft, 1, 3, 1) := rfl
theorem mt_3_35 : mtab 3 35 = some (mX3_begin, 1, 3, 1) := rfl
theorem mt_3_39 : mtab 3 39 = some (mX3_isReachedKnot, 1, 3, 1) := rfl
theorem mt_3_42 : mtab 3 42 = some (mX3_barsLeftAt, 1, 3, 1) := rfl
theorem mt_3_46 : mtab 3 46 = some (mX3_oddKnotsJoinedTo, 1, 3, 1) := rfl
theorem mt_3_49 : mtab 3 49 = some (mJ9_max_7cf53, 0, 99, 2) := rfl
theorem mt_3_54 : mtab 3 54 = some (mX3_queueKnot, 1, 3, 2) := rfl
theorem mt_3_57 : mtab 3 57 = some (mX3_knotOn, 0, 3, 2) := rfl
theorem mt_3_60 : mtab 3 60 = some (mX3_reach, 1, 3, 1) := rfl
theorem mt_3_64 : mtab 3 64 = some (mX3_layFrom, 1, 3, 1) := rfl
theorem mt_3_67 : mtab 3 67 = some (mX3_layRingsTouched, 1, 3, 0) := rfl
theorem mt_3_70 : mtab 3 70 = some (mX3_layOneRoundOfRings, 1, 3, 0) := rfl
theorem mt_3_74 : mtab 3 74 = some (mX3_wayLeftAt, 1, 3, 1) := rfl
theorem mt_3_77 : mtab 3 77 = some (mX3_layBar, 1, 3, 1) := rfl
theorem mt_4_22 : mtab 4 22 = some (mX4_hasKnot, 1, 4, 2) := rfl
theorem mt_4_29 : mtab 4 29 = some (mJ9_min_7cf53, 0, 99, 2) := rfl
theorem mt_4_35 : mtab 4 35 = some (mX4_tearBar, 1, 4, 2) := rfl
theorem mt_5_23 : mtab 5 23 = some (mX5_carriedBy, 1, 5, 1) := rfl
theorem mt_5_27 : mtab 5 27 = some (mX2_isWhole, 1, 2, 0) := rfl
theorem mt_5_33 : mtab 5 33 = some (mX5_pullFor, 1, 5, 1) := rfl
theorem mt_5_37 : mtab 5 37 = some (mX2_safeLoad, 1, 2, 0) := rfl
theorem mt_8_9 : mtab 8 9 = some (mX6_fibre, 1, 6, 3) := rfl
theorem mt_8_23 : mtab 8 23 = some (mX6_spin, 1, 6, 4) := rfl
theorem mt_8_31 : mtab 8 31 = some (mX6_lay, 1, 6, 4) := rfl
theorem mt_8_34 : mtab 8 34 = some (mX6_cut, 1, 6, 2) := rfl
theorem mt_8_38 : mtab 8 38 = some (mX6_order, 1, 6, 2) := rfl
theorem mt_8_41 : mtab 8 41 = some (mX6_splice, 1, 6, 3) := rfl
theorem mt_8_45 : mtab 8 45 = some (mX6_load, 1, 6, 2) := rfl
theorem mt_8_48 : mtab 8 48 = some (mX6_sun, 1, 6, 1) := rfl
theorem mt_8_52 : mtab 8 52 = some (mX6_lineOf, 1, 6, 2) := rfl
theorem mt_8_55 : mtab 8 55 = some (mX6_yarns, 1, 6, 1) := rfl
theorem mt_8_58 : mtab 8 58 = some (mX6_rig, 1, 6, 3) := rfl
theorem mt_8_61 : mtab 8 61 = some (mX6_pull, 1, 6, 2) := rfl
theorem mt_8_64 : mtab 8 64 = some (mX6_lift, 1, 6, 2) := rfl
theorem mt_8_68 : mtab 8 68 = some (mX6_series, 1, 6, 3) := rfl
theorem mt_8_71 : mtab 8 71 = some (mX6_holds, 1, 6, 4) := rfl
theorem mt_8_75 : mtab 8 75 = some (mX6_braid, 1, 6, 1) := rfl
theorem mt_8_78 : mtab 8 78 = some (mX6_cross, 1, 6, 2) := rfl
theorem mt_8_82 : mtab 8 82 = some (mX6_carrier, 1, 6, 1) := rfl
theorem mt_8_85 : mtab 8 85 = some (mX6_over, 1, 6, 2) := rfl
theorem mt_8_88 : mtab 8 88 = some (mX6_net, 1, 6, 2) := rfl
theorem mt_8_91 : mtab 8 91 = some (mX6_tear, 1, 6, 4) := rfl
theorem mt_8_95 : mtab 8 95 = some (mX6_hole, 1, 6, 5) := rfl
theorem mt_8_99 : mtab 8 99 = some (mX6_twines, 1, 6, 1) := rfl
theorem mt_8_102 : mtab 8 102 = some (mX6_twinesAnew, 1, 6, 1) := rfl
theorem mt_8_105 : mtab 8 105 = some (mX6_mend, 1, 6, 2) := rfl
theorem mt_8_108 : mtab 8 108 = some (mX6_join, 1, 6, 3) := rfl
theorem mt_8_111 : mtab 8 111 = some (mX6_depth, 1, 6, 3) := rfl
theorem mt_8_114 : mtab 8 114 = some (mL_lineOf, 5, 99, 3) := rfl
theorem mt_8_127 : mtab 8 127 = some (mL_yarns, 5, 99, 2) := rfl
theorem mt_8_136 : mtab 8 136 = some (mL_pull, 5, 99, 3) := rfl
theorem mt_8_138 : mtab 8 138 = some (mL_carries, 0, 99, 3) := rfl
theorem mt_8_144 : mtab 8 144 = some (mL_lift, 5, 99, 3) := rfl
theorem mt_8_148 : mtab 8 148 = some (mL_carrier, 5, 99, 2) := rfl
theorem mt_8_150 : mtab 8 150 = some (mX6_orderOf, 1, 6, 0) := rfl
theorem mt_8_154 : mtab 8 154 = some (mX6_orderAnew, 1, 6, 0) := rfl
theorem mt_8_157 : mtab 8 157 = some (mL_over, 5, 99, 3) := rfl
theorem mt_8_159 : mtab 8 159 = some (mL_fibre, 5, 99, 4) := rfl
theorem mt_8_162 : mtab 8 162 = some (mL_spin, 5, 99, 5) := rfl
theorem mt_8_165 : mtab 8 165 = some (mL_lay, 5, 99, 5) := rfl
theorem mt_8_167 : mtab 8 167 = some (mL_cut, 5, 99, 3) := rfl
theorem mt_8_169 : mtab 8 169 = some (mL_order, 5, 99, 3) := rfl
theorem mt_8_171 : mtab 8 171 = some (mL_splice, 5, 99, 4) := rfl
theorem mt_8_173 : mtab 8 173 = some (mL_load, 5, 99, 3) := rfl
theorem mt_8_175 : mtab 8 175 = some (mL_sun, 5, 99, 2) := rfl
theorem mt_8_177 : mtab 8 177 = some (mL_rig, 5, 99, 4) := rfl
theorem mt_8_179 : mtab 8 179 = some (mL_series, 5, 99, 4) := rfl
theorem mt_8_181 : mtab 8 181 = some (mL_holds, 5, 99, 5) := rfl
theorem mt_8_183 : mtab 8 183 = some (mL_braid, 5, 99, 2) := rfl
theorem mt_8_185 : mtab 8 185 = some (mL_cross, 5, 99, 3) := rfl
theorem mt_8_188 : mtab 8 188 = some (mL_net, 5, 99, 3) := rfl
theorem mt_8_190 : mtab 8 190 = some (mL_tear, 5, 99, 5) := rfl
theorem mt_8_193 : mtab 8 193 = some (mL_hole, 5, 99, 6) := rfl
theorem mt_8_196 : mtab 8 196 = some (mL_twines, 5, 99, 2) := rfl
theorem mt_8_198 : mtab 8 198 = some (mL_twinesAnew, 5, 99, 2) := rfl
theorem mt_8_200 : mtab 8 200 = some (mL_mend, 5, 99, 3) := rfl
theorem mt_8_202 : mtab 8 202 = some (mL_join, 5, 99, 4) := rfl
theorem mt_8_204 : mtab 8 204 = some (mL_depth, 5, 99, 4) := rfl
theorem mt_8_208 : mtab 8 208 = some (mX6_init, 2, 6, 0) := rfl
theorem mt_8_209 : mtab 8 209 = some (mL_draw, 0, 99, 2) := rfl
theorem mt_8_213 : mtab 8 213 = some (mL_rigHolds, 0, 99, 6) := rfl
theorem mt_8_217 : mtab 8 217 = some (mL_braidHolds, 0, 99, 2) := rfl
theorem mt_8_221 : mtab 8 221 = some (mL_netHolds, 0, 99, 4) := rfl
theorem mt_8_225 : mtab 8 225 = some (mL_linesHold, 0, 99, 2) := rfl
theorem mt_8_228 : mtab 8 228 = some (mL_refuses, 0, 99, 1) := rfl
theorem ft_6_11 : ftab 6 11 = some (6, 0, 0, 1, 1) := by decide +kernel
theorem ft_6_17 : ftab 6 17 = some (6, 1, 0, 1, 1) := by decide +kernel
theorem ft_6_23 : ftab 6 23 = some (6, 3, 0, 1, 1) := by decide +kernel
theorem ft_6_30 : ftab 6 30 = some (6, 5, 0, 1, 1) := by decide +kernel
theorem ft_6_36 : ftab 6 36 = some (6, 6, 0, 1, 1) := by decide +kernel
theorem ft_6_43 : ftab 6 43 = some (6, 8, 0, 1, 1) := by decide +kernel
theorem ft_6_56 : ftab 6 56 = some (1, 0, 1, 0, 0) := by decide +kernel
theorem ft_6_60 : ftab 6 60 = some (1, 1, 1, 0, 0) := by decide +kernel
theorem ft_6_94 : ftab 6 94 = some (2, 0, 1, 0, 1) := by decide +kernel
theorem ft_6_105 : ftab 6 105 = some (2, 2, 1, 0, 0) := by decide +kernel
theorem ft_6_129 : ftab 6 129 = some (2, 7, 1, 0, 0) := by decide +kernel
theorem ft_6_132 : ftab 6 132 = some (2, 6, 1, 0, 0) := by decide +kernel
theorem ft_6_146 : ftab 6 146 = some (6, 4, 0, 0, 0) := by decide +kernel
theorem ft_6_167 : ftab 6 167 = some (5, 0, 1, 1, 1) := by decide +kernel
theorem ft_6_183 : ftab 6 183 = some (0, 1, 1, 0, 0) := by decide +kernel
theorem ft_6_189 : ftab 6 189 = some (0, 0, 1, 0, 0) := by decide +kernel
theorem ft_6_213 : ftab 6 213 = some (6, 7, 0, 0, 0) := by decide +kernel
theorem ft_6_241 : ftab 6 241 = some (4, 3, 1, 0, 0) := by decide +kernel
theorem ft_6_277 : ftab 6 277 = some (6, 2, 0, 0, 0) := by decide +kernel
theorem ft_6_292 : ftab 6 292 = some (2, 9, 1, 1, 0) := by decide +kernel
theorem ft_6_295 : ftab 6 295 = some (2, 10, 1, 1, 0) := by decide +kernel
theorem ft_6_298 : ftab 6 298 = some (2, 8, 1, 1, 0) := by decide +kernel
theorem ft_0_9 : ftab 0 9 = some (0, 2, 0, 1, 1) := by decide +kernel
theorem ft_0_15 : ftab 0 15 = some (0, 3, 0, 1, 1) := by decide +kernel
theorem ft_0_18 : ftab 0 18 = some (0, 4, 0, 1, 1) := by decide +kernel
theorem ft_0_21 : ftab 0 21 = some (0, 5, 0, 1, 1) := by decide +kernel
theorem ft_0_28 : ftab 0 28 = some (0, 0, 0, 0, 0) := by decide +kernel
theorem ft_0_32 : ftab 0 32 = some (0, 1, 0, 0, 0) := by decide +kernel
theorem ft_1_7 : ftab 1 7 = some (1, 0, 0, 0, 0) := by decide +kernel
theorem ft_1_13 : ftab 1 13 = some (1, 1, 0, 0, 0) := by decide +kernel
theorem ft_2_9 : ftab 2 9 = some (2, 7, 0, 0, 0) := by decide +kernel
theorem ft_2_15 : ftab 2 15 = some (2, 0, 0, 0, 1) := by decide +kernel
theorem ft_2_18 : ftab 2 18 = some (2, 1, 0, 0, 1) := by decide +kernel
theorem ft_2_21 : ftab 2 21 = some (2, 2, 0, 0, 0) := by decide +kernel
theorem ft_2_33 : ftab 2 33 = some (2, 3, 0, 0, 0) := by decide +kernel
theorem ft_2_36 : ftab 2 36 = some (2, 4, 0, 0, 0) := by decide +kernel
theorem ft_2_42 : ftab 2 42 = some (2, 5, 0, 0, 0) := by decide +kernel
theorem ft_2_59 : ftab 2 59 = some (2, 8, 0, 1, 0) := by decide +kernel
theorem ft_2_63 : ftab 2 63 = some (2, 9, 0, 1, 0) := by decide +kernel
theorem ft_2_66 : ftab 2 66 = some (2, 10, 0, 1, 0) := by decide +kernel
theorem ft_2_76 : ftab 2 76 = some (2, 6, 0, 0, 0) := by decide +kernel
theorem ft_3_11 : ftab 3 11 = some (3, 0, 0, 1, 1) := by decide +kernel
theorem ft_3_15 : ftab 3 15 = some (3, 1, 0, 1, 1) := by decide +kernel
theorem ft_3_18 : ftab 3 18 = some (3, 2, 0, 1, 1) := by decide +kernel
theorem ft_4_9 : ftab 4 9 = some (4, 2, 0, 1, 1) := by decide +kernel
theorem ft_4_15 : ftab 4 15 = some (4, 0, 0, 0, 1) := by decide +kernel
theorem ft_4_19 : ftab 4 19 = some (4, 1, 0, 0, 1) := by decide +kernel
theorem ft_4_26 : ftab 4 26 = some (4, 3, 0, 0, 0) := by decide +kernel
theorem ft_5_7 : ftab 5 7 = some (5, 0, 0, 1, 1) := by decide +kernel
theorem ft_5_13 : ftab 5 13 = some (5, 1, 0, 0, 1) := by decide +kernel
theorem ft_5_17 : ftab 5 17 = some (5, 2, 0, 0, 1) := by decide +kernel
theorem ct_6_9 : ctab 6 9 = some (1) := by decide +kernel
theorem xt_6_9 : xtab 6 9 = none := by decide +kernel
theorem ct_6_15 : ctab 6 15 = some (2) := by decide +kernel
theorem xt_6_15 : xtab 6 15 = none := by decide +kernel
theorem ct_6_21 : ctab 6 21 = some (5) := by decide +kernel
theorem xt_6_21 : xtab 6 21 = none := by decide +kernel
theorem ct_6_27 : ctab 6 27 = some (0) := by decide +kernel
theorem xt_6_27 : xtab 6 27 = none := by decide +kernel
theorem ct_6_34 : ctab 6 34 = some (4) := by decide +kernel
theorem xt_6_34 : xtab 6 34 = none := by decide +kernel
theorem ct_6_40 : ctab 6 40 = some (3) := by decide +kernel
theorem xt_6_40 : xtab 6 40 = none := by decide +kernel
theorem ct_2_10 : ctab 2 10 = some (2) := by decide +kernel
theorem xt_2_10 : xtab 2 10 = none := by decide +kernel
theorem ct_8_10 : ctab 8 10 = some (6) := by decide +kernel
theorem xt_8_10 : xtab 8 10 = none := by decide +kernel
theorem at_6_9 : atab 6 9 = some (3) := by decide +kernel
theorem at_6_15 : atab 6 15 = some (4) := by decide +kernel
theorem at_6_21 : atab 6 21 = some (5) := by decide +kernel
theorem at_6_34 : atab 6 34 = some (6) := by decide +kernel
theorem at_2_10 : atab 2 10 = some (4) := by decide +kernel
theorem kt_6_124 : ktab 6 124 = some (1000000) := by decide +kernel
theorem kt_5_22 : ktab 5 22 = some (524288) := by decide +kernel
theorem kt_8_7 : ktab 8 7 = some (15595849) := by decide +kernel
theorem kt_8_8 : ktab 8 8 = some (2147483647) := by decide +kernel
theorem lt_6_171 : ltab 6 171 = some (10) := by decide +kernel
theorem lt_6_173 : ltab 6 173 = some (100) := by decide +kernel
theorem lt_6_175 : ltab 6 175 = some (1000000000) := by decide +kernel
theorem lt_5_20 : ltab 5 20 = some (100) := by decide +kernel
theorem lt_8_17 : ltab 8 17 = some (-9000000000000000001) := by decide +kernel
theorem lt_8_21 : ltab 8 21 = some (-9000000000000000002) := by decide +kernel
theorem lt_8_29 : ltab 8 29 = some (-9000000000000000003) := by decide +kernel
theorem lt_8_119 : ltab 8 119 = some (3) := by decide +kernel
theorem lt_8_121 : ltab 8 121 = some (2) := by decide +kernel
theorem lt_8_123 : ltab 8 123 = some (9) := by decide +kernel
theorem lt_8_125 : ltab 8 125 = some (27) := by decide +kernel
theorem lt_8_130 : ltab 8 130 = some (1000) := by decide +kernel
theorem lt_8_132 : ltab 8 132 = some (300) := by decide +kernel
theorem lt_8_134 : ltab 8 134 = some (100) := by decide +kernel
theorem lt_8_142 : ltab 8 142 = some (5) := by decide +kernel
theorem lt_8_146 : ltab 8 146 = some (10) := by decide +kernel
theorem lt_8_206 : ltab 8 206 = some (-1) := by decide +kernel
theorem xt_6_230 : xtab 6 230 = some (234, 0) := by decide +kernel
theorem xt_6_263 : xtab 6 263 = some (267, 1) := by decide +kernel
theorem xt_6_272 : xtab 6 272 = some (276, 2) := by decide +kernel
theorem st_232 : stab 232 = true := by decide +kernel
theorem st_265 : stab 265 = true := by decide +kernel
theorem st_268 : stab 268 = true := by decide +kernel
theorem st_270 : stab 270 = true := by decide +kernel
theorem st_274 : stab 274 = true := by decide +kernel
theorem st_280 : stab 280 = true := by decide +kernel
theorem st_282 : stab 282 = true := by decide +kernel
theorem st_284 : stab 284 = true := by decide +kernel
theorem st_286 : stab 286 = true := by decide +kernel
theorem ot_6_1 : otab 6 1 = true := by decide +kernel
theorem ot_0_3 : otab 0 3 = true := by decide +kernel
theorem ot_1_1 : otab 1 1 = true := by decide +kernel
theorem ot_2_3 : otab 2 3 = true := by decide +kernel
theorem ot_3_5 : otab 3 5 = true := by decide +kernel
theorem ot_4_3 : otab 4 3 = true := by decide +kernel
theorem ot_5_1 : otab 5 1 = true := by decide +kernel
theorem ot_2_24 : otab 2 24 = false := by decide +kernel
theorem ot_6_149 : otab 6 149 = false := by decide +kernel
theorem ot_6_216 : otab 6 216 = false := by decide +kernel
theorem ot_6_29 : otab 6 29 = false := by decide +kernel
theorem ot_6_42 : otab 6 42 = false := by decide +kernel
theorem ot_6_47 : otab 6 47 = false := by decide +kernel
theorem ot_8_208 : otab 8 208 = false := by decide +kernel
theorem dfl_0 : dfl 0 = [.int 0, .int 0, .null, .null, .null, .null] := by decide +kernel
theorem dfl_1 : dfl 1 = [.int 0, .int 0] := by decide +kernel
theorem dfl_2 : dfl 2 = [.int 0, .int 0, .int 0, .int 0, .int 0, .int 0, .int 0, .int 0, .null, .null, .null] := by decide +kernel
theorem dfl_3 : dfl 3 = [.null, .null, .null] := by decide +kernel
theorem dfl_4 : dfl 4 = [.int 0, .int 0, .null, .int 0] := by decide +kernel
theorem dfl_5 : dfl 5 = [.null, .int 0, .int 0] := by decide +kernel
theorem dfl_6 : dfl 6 = [.null, .null, .int 0, .null, .int 0, .null, .null, .int 0, .null] := by decide +kernel
