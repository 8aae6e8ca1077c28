-- THE LAW'S WRAPPERS: what their tables catch
def tyX (x : Nat) : Nat := match x with | 0 => 15 | 1 => 19 | _ => 27
def hFind (pc x : Nat) : List (Nat × Nat × Nat × Nat) → Option Nat
  | [] => none
  | (a, b, h, t) :: r => if a ≤ pc ∧ pc < b ∧ t = tyX x then some h else hFind pc x r
def tyOK (hh : List (Nat × Nat × Nat × Nat)) : Bool := hh.all (fun q => q.2.2.2 == 15 || q.2.2.2 == 19 || q.2.2.2 == 27)
theorem NB_c : ∀ x, x < 3 → Cond.castable (exN x) (exN x) ∈ NB := by decide +kernel
theorem NCL_d : ∀ x, x < 3 → ∀ y, y < 3 → (decide (x = y) || NCL.contains (exN x, exN y)) = true := by decide +kernel
theorem NCL_mem (x : Nat) (hx : x < 3) (y : Nat) (hy : y < 3) (h : x ≠ y) : (exN x, exN y) ∈ NCL := by
  have h1 := NCL_d x hx y hy
  rw [decide_eq_false h, Bool.false_or] at h1
  exact List.contains_iff_mem.mp h1
theorem TB_h {q : Nat × Nat} (hq : q ∈ HTL) : Cond.classLink RL q.1 (exN q.2) ∈ TB := by
  unfold TB
  refine List.mem_append_right _ (List.mem_append_right _ (List.mem_append_right _ (List.mem_append_right _ (List.mem_append_right _ (List.mem_append_right _ (List.mem_append_right _ (List.mem_append_left _ ?_)))))))
  exact List.mem_map.mpr ⟨q, hq, rfl⟩
theorem covers_iff {a b h t pc : Nat} : covers ⟨a, b, h, t⟩ pc = true ↔ a ≤ pc ∧ pc < b := by
  unfold covers
  simp
section HND
variable {d : DD} {mi : MInfo} {R : Room} {Z : List Frame → Array Value → State → State → Prop} {pc : Nat} {L : List (Nat × Value)} {g : HP} {b : Nat}
theorem JT_catch {x t : Nat} (hx : x < 3) (hcl : mi.1.cls = RL) (hty : tyOK mi.2.2.2.2.2 = true) (hf : hFind pc x mi.2.2.2.2.2 = some t) (k : ∀ q, J d mi R Z t L [.ref q] g b) : JT d mi R Z pc L x g b := by
  intro p l E s m args below meth c H locs ls st ce q C hW hS hl h1 h2 h3
  obtain ⟨⟨hxx, hb', hml, hown, hts⟩, hlocks, hret, htab, hname, hlt, hGF, hGH⟩ := id C
  rw [hcl] at hown
  have key : ∀ (suf pre : List (Nat × Nat × Nat × Nat)), mi.2.2.2.2.2 = pre ++ suf → (∀ z ∈ pre, ¬ (z.1 ≤ pc ∧ pc < z.2.1 ∧ z.2.2.2 = tyX x)) → hFind pc x suf = some t → ∃ pre2 x2 suf2, mi.2.2.2.2.2 = pre2 ++ x2 :: suf2 ∧ (∀ z ∈ pre2, ¬ (z.1 ≤ pc ∧ pc < z.2.1 ∧ z.2.2.2 = tyX x)) ∧ (x2.1 ≤ pc ∧ pc < x2.2.1 ∧ x2.2.2.2 = tyX x) ∧ x2.2.2.1 = t := by
    intro suf
    induction suf with
    | nil => intro pre _ _ h; cases h
    | cons z r ih =>
      intro pre he hp h
      obtain ⟨z1, z2, z3, z4⟩ := z
      unfold hFind at h
      by_cases hc : z1 ≤ pc ∧ pc < z2 ∧ z4 = tyX x
      · rw [if_pos hc] at h
        exact ⟨pre, _, r, he, hp, hc, Option.some.inj h⟩
      · rw [if_neg hc] at h
        refine ih (pre ++ [(z1, z2, z3, z4)]) (by rw [he, List.append_assoc]; rfl) (fun z hz => ?_) h
        rcases List.mem_append.mp hz with hz | hz
        · exact hp z hz
        · rw [List.mem_singleton.mp hz]
          exact hc
  obtain ⟨pre, x2, suf, he, hp, hc, ht⟩ := key mi.2.2.2.2.2 [] rfl (fun z hz => by cases hz) hf
  have hHT : ∀ y, y < 3 → (tyX y, y) ∈ HTL := by
    intro y hy
    match y, hy with
    | 0, _ => decide
    | 1, _ => decide
    | 2, _ => decide
  have htyp : ∀ z ∈ mi.2.2.2.2.2, ∃ y, y < 3 ∧ z.2.2.2 = tyX y := fun z hz => by
    have := List.all_eq_true.mp hty z hz
    simp only [Bool.or_eq_true, beq_iff_eq] at this
    rcases this with (e | e) | e
    · exact ⟨0, by decide, e⟩
    · exact ⟨1, by decide, e⟩
    · exact ⟨2, by decide, e⟩
  refine vx_catch (own := RL) (name := exN x) (E := exN x) hown (tableOf pre) ⟨x2.1, x2.2.1, x2.2.2.1, x2.2.2.2⟩ (tableOf suf) ?_ (fun z hz => ?_) (covers_iff.mpr ⟨hc.1, hc.2.1⟩) ?_ ?_ ?_ h1 h2 h3 ?_
  · rw [htab, he]
    unfold tableOf
    rw [List.map_append, List.map_cons]
  · unfold tableOf at hz
    obtain ⟨z2, hz2, rfl⟩ := List.mem_map.mp hz
    have hn := hp z2 hz2
    obtain ⟨y, hy, e⟩ := htyp z2 (by rw [he]; exact List.mem_append_left _ hz2)
    by_cases hcov : z2.1 ≤ pc ∧ pc < z2.2.1
    · refine Or.inr ⟨?_, exN y, ?_, ?_⟩
      · show z2.2.2.2 ≠ 0
        rw [e]
        match y, hy with
        | 0, _ => decide
        | 1, _ => decide
        | 2, _ => decide
      · show (Cond.classLink RL z2.2.2.2 (exN y)).before args s = true
        rw [e]
        exact hts _ (TB_h (hHT y hy))
      · have hxy : x ≠ y := fun e2 => hn ⟨hcov.1, hcov.2, by rw [e, e2]⟩
        exact hGF.2.2.1 (exN x, exN y) (NCL_mem x hx y hy hxy)
    · refine Or.inl ?_
      cases hz : covers ⟨z2.1, z2.2.1, z2.2.2.1, z2.2.2.2⟩ pc
      · rfl
      · exact absurd (covers_iff.mp hz) hcov
  · show x2.2.2.2 ≠ 0
    rw [hc.2.2]
    match x, hx with
    | 0, _ => decide
    | 1, _ => decide
    | 2, _ => decide
  · show (Cond.classLink RL x2.2.2.2 (exN x)).before args s = true
    rw [hc.2.2]
    exact hts _ (TB_h (hHT x hx))
  · exact va_Nw.use rfl (hGF.2.1 _ (NB_c x hx))
  · show W p l E R s m args below meth c H locs b (12 * b) (Z below args s) (F0 m x2.2.2.1 ls [.ref q])
    rw [ht]
    exact k q p l E s m args below meth c H locs ls C hW hS hl
end HND
/-- what a wrapper's table row says -/
def MOKH (mi : MInfo) (nm : String) (ml : Nat) (ret : Option FieldType) (cc : ByteArray) (hh : List (Nat × Nat × Nat × Nat)) : Prop := mi.1.name = nm ∧ mi.2.2.1 = ml ∧ mi.2.2.2.1 = ret ∧ mi.2.1 = cc ∧ mi.1.cls = RL ∧ mi.2.2.2.2.2 = hh ∧ hh ≠ [] ∧ tyOK hh = true ∧ plainName mi.1.cls = true
def Xh (d : DD) (mi : MInfo) (e U : Nat) (Post : Out → HP → Prop) (hh : List (Nat × Nat × Nat × Nat)) : Nat → List (Nat × Value) → Nat → HP → Nat → Prop := fun pc L x g b => ∃ t, hFind pc x hh = some t ∧ ∀ q, J d mi (rmOf e U) (jZ d U Post) t L [.ref q] g b
theorem JH_w {d : DD} {mi : MInfo} {nm : String} {ml : Nat} {ret : Option FieldType} {cc : ByteArray} {hh : List (Nat × Nat × Nat × Nat)} {e U : Nat} {Post : Out → HP → Prop} {pc : Nat} {L : List (Nat × Value)} {st : List Value} {g : HP} {b : Nat} (hm : MOKH mi nm ml ret cc hh) (cut : List (Nat × List Nat)) (n : Nat)
    (h : wpG d mi nm ml ret 8 cc e U (rmOf e U) (jZ d U Post) (fun v g => Post (.inl v) g) (fun _ _ => False) (Xh d mi e U Post hh) cut n pc L st g b) : J d mi (rmOf e U) (jZ d U Post) pc L st g b := by
  obtain ⟨rfl, rfl, rfl, rfl, hcl, rfl, hne, hty, hpl⟩ := hm
  exact wp_sound (own := 8) hcl ⟨Nat.le_refl _, Nat.le_refl _, Nat.le_refl _, Nat.le_refl _⟩ (fun pc L x g b hx ⟨t, ht, hk⟩ => JT_catch hx hcl hty ht hk) RetOK_plain (fun _ _ _ _ _ _ _ _ ho => absurd ho (by decide)) n pc L st g b h
theorem CtH_w {d : DD} {mi : MInfo} {nm : String} {ml : Nat} {ret : Option FieldType} {cc : ByteArray} {hh : List (Nat × Nat × Nat × Nat)} {e U : Nat} {Post : Out → HP → Prop} {args : List Value} {g : HP} (hm : MOKH mi nm ml ret cc hh) (cut : List (Nat × List Nat)) (n : Nat) (hn : Nat.ble (lg_sl args).length ml = true)
    (h : wpG d mi nm ml ret 8 cc e U (rmOf e U) (jZ d U Post) (fun v g => Post (.inl v) g) (fun _ _ => False) (Xh d mi e U Post hh) cut n 0 (lv_args 0 args) [] g 0) : Ct d mi e U args g Post := by
  have hJ := JH_w hm cut n h
  obtain ⟨rfl, rfl, rfl, rfl, hcl, rfl, hne, hty, hpl⟩ := hm
  exact Ct_of_JH hne hpl (Nat.le_of_ble_eq_true hn) hJ
