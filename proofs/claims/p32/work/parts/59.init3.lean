-- CONTRACTS: the class's constructor
def St0 : St := ((fun f i => if f = 0 ∧ i = 3 then 3 else if f = 4 then i else 0), (fun f _ => if f = 9 then 100 else if f = 10 then 20 else 0), (fun _ _ => false), (fun _ _ => none))
def iSg (k i : Nat) : Nat := if k = 0 then 4 - i else [14, 17, 16, 15, 9, 8, 13, 12, 11, 10, 0, 7, 6, 5].getD i 0
theorem iSg_00 : ∀ i < 4, ∀ j < 4, iSg 0 i = iSg 0 j → i = j := by decide
theorem iSg_05 : ∀ i < 4, ∀ j < 14, iSg 0 i ≠ iSg 5 j := by decide
theorem iSg_55 : ∀ i < 14, ∀ j < 14, iSg 5 i = iSg 5 j → i = j := by decide
theorem iSg_lt0 : ∀ i < 4, iSg 0 i < 18 := by decide
theorem iSg_lt5 : ∀ i < 14, iSg 5 i < 18 := by decide
def bkI (L : List Nat) : Bk := fun k i => L.getD (iSg k i) 0
theorem vld_St0 {k i : Nat} (h : vld St0 k i) : (k = 0 ∧ i < 4) ∨ (k = 5 ∧ i < 14) := by
  rcases h with ⟨a, b⟩ | ⟨a, b⟩ | ⟨a, b⟩ | ⟨a, b⟩ | ⟨a, b⟩ | ⟨a, b⟩
  · exact Or.inl ⟨a, b⟩
  · exact absurd b (Nat.not_lt_zero _)
  · exact absurd b (Nat.not_lt_zero _)
  · exact absurd b (Nat.not_lt_zero _)
  · exact absurd b (Nat.not_lt_zero _)
  · exact Or.inr ⟨a, b⟩
theorem injB_bkI {L : List Nat} (hn : L.Nodup) (hl : L.length = 18) : injB (bkI L) St0 := by
  intro k i k2 i2 h1 h2 e
  have key : ∀ x y, x < 18 → y < 18 → L.getD x 0 = L.getD y 0 → x = y := fun x y hx hy e => by
    rw [List.getD_eq_getElem?_getD, List.getD_eq_getElem?_getD, List.getElem?_eq_getElem (by omega), List.getElem?_eq_getElem (by omega)] at e
    exact (List.getElem_inj hn).mp e
  unfold bkI at e
  rcases vld_St0 h1 with ⟨rfl, hi⟩ | ⟨rfl, hi⟩ <;> rcases vld_St0 h2 with ⟨rfl, hi2⟩ | ⟨rfl, hi2⟩
  · exact ⟨rfl, iSg_00 i hi i2 hi2 (key _ _ (iSg_lt0 i hi) (iSg_lt0 i2 hi2) e)⟩
  · exact absurd (key _ _ (iSg_lt0 i hi) (iSg_lt5 i2 hi2) e) (iSg_05 i hi i2 hi2)
  · exact absurd (key _ _ (iSg_lt5 i hi) (iSg_lt0 i2 hi2) e).symm (iSg_05 i2 hi2 i hi)
  · exact ⟨rfl, iSg_55 i hi i2 hi2 (key _ _ (iSg_lt5 i hi) (iSg_lt5 i2 hi2) e)⟩
def bornL (a q1 q2 q3 q4 q5 q6 q7 q8 q9 q10 q11 q12 q13 f0 f1 f2 f3 : Nat) (ff : Nat → Option Nat) (F1 F2 F3 F4 : Nat → Int32) : List (Nat × HObj) :=
  [(q10, hO 3 [.ref q11, .ref q12, .ref q13]), (f3, hO 1 [.int 100, .int 20]), (f2, hO 1 [.int 100, .int 20]), (f1, hO 1 [.int 100, .int 20]), (f0, hO 1 [.int 100, .int 20]), (q13, hI 0 121 (fun _ => 0)), (q12, hI 2 121 (fun _ => 0)), (q11, hI 2 100 (fun _ => 0)), (q4, hO 0 [.int 3, .int 0, .ref q5, .ref q6, .ref q7, .ref q8]), (q9, hR 6 5 (fun _ => none)), (q8, hI 0 64 F4), (q7, hI 0 60 F3), (q6, hI 0 8 F2), (q5, hI 0 8 F1), (a, hO 6 [.ref q1, .ref q2, .int 0, .ref q3, .int 0, .ref q4, .ref q9, .int 0, .ref q10]), (q3, hR 5 12 (fun _ => none)), (q2, hR 4 60 (fun _ => none)), (q1, hR 3 4 ff)]
theorem CW.born {a q1 q2 q3 q4 q5 q6 q7 q8 q9 q10 q11 q12 q13 f0 f1 f2 f3 : Nat} {ff : Nat → Option Nat} {F1 F2 F3 F4 : Nat → Int32} {g : HP} (h : AC (bornL a q1 q2 q3 q4 q5 q6 q7 q8 q9 q10 q11 q12 q13 f0 f1 f2 f3 ff F1 F2 F3 F4) g) (hff : ff 0 = some f0 ∧ ff 1 = some f1 ∧ ff 2 = some f2 ∧ ff 3 = some f3) (hF1 : ∀ j, j < 8 → F1 j = nI j) (hF4 : ∀ j, j < 64 → F4 j = 0) :
    CW (bkI [q10, f3, f2, f1, f0, q13, q12, q11, q4, q9, q8, q7, q6, q5, a, q3, q2, q1]) St0 g := by
  refine ⟨h.at (i := 14) rfl, ⟨⟨ff, h.at (i := 17) rfl, fun i hi => ?_⟩, fun i hi => ?_⟩, ⟨⟨fun _ => none, h.at (i := 16) rfl, fun i hi => rfl⟩, fun i hi => absurd hi (Nat.not_lt_zero _)⟩, ⟨⟨fun _ => none, h.at (i := 15) rfl, fun i hi => rfl⟩, fun i hi => absurd hi (Nat.not_lt_zero _)⟩, ⟨⟨fun _ => none, h.at (i := 9) rfl, fun i hi => rfl⟩, fun i hi => absurd hi (Nat.not_lt_zero _), fun i hi => absurd hi (Nat.not_lt_zero _)⟩, ⟨h.at (i := 8) rfl, ⟨F1, h.at (i := 13) rfl, fun j hj => hF1 j hj⟩, ⟨F2, h.at (i := 12) rfl⟩, ⟨F3, h.at (i := 11) rfl, fun j hj => absurd hj (Nat.not_lt_zero _)⟩, ⟨F4, h.at (i := 10) rfl, fun j hj => hF4 j hj⟩⟩, ⟨fun _ => false, fun _ => false, fun _ => 0, h.at (i := 0) rfl, ⟨_, h.at (i := 7) rfl, fun _ _ => rfl⟩, ⟨_, h.at (i := 6) rfl, fun _ _ => rfl⟩, ⟨_, h.at (i := 5) rfl, fun _ _ => rfl⟩, h.ne (i := 0) (j := 7) rfl rfl (by decide), h.ne (i := 0) (j := 6) rfl rfl (by decide), h.ne (i := 0) (j := 5) rfl rfl (by decide), h.ne (i := 7) (j := 6) rfl rfl (by decide), h.ne (i := 7) (j := 5) rfl rfl (by decide), h.ne (i := 6) (j := 5) rfl rfl (by decide)⟩, injB_bkI h.1 rfl, ?_⟩
  · have : i = 0 ∨ i = 1 ∨ i = 2 ∨ i = 3 := by omega
    rcases this with rfl | rfl | rfl | rfl
    · exact hff.1
    · exact hff.2.1
    · exact hff.2.2.1
    · exact hff.2.2.2
  · have : i = 0 ∨ i = 1 ∨ i = 2 ∨ i = 3 := by omega
    rcases this with rfl | rfl | rfl | rfl
    · exact h.at (i := 4) rfl
    · exact h.at (i := 3) rfl
    · exact h.at (i := 2) rfl
    · exact h.at (i := 1) rfl
  · exact ⟨by decide, by decide, by decide, by decide, by decide, by decide, fun f i j hi _ => absurd hi (Nat.not_lt_zero _), fun r hr => absurd hr (Nat.not_lt_zero _)⟩
section C59
variable {d : DD} {g : HP} {Post : Out → HP → Prop}
set_option maxRecDepth 100000 in
set_option maxHeartbeats 4000000 in
theorem j_fibres {a q1 : Nat} {fs : List Value} {ff : Nat → Option Nat} {i b : Nat} (hi : i < 4) (hb : b + 3 ≤ 73) (ha : g a = some (hO 6 (.ref q1 :: fs))) (hq1 : g q1 = some (hR 3 4 ff)) (hJ : ∀ q, g q = none → J d mX6_init (rmOf 3 73) (jZ d 73 Post) 62 [(0, .ref a), (1, .int (nI (i + 1)))] [] (hup (hup g q (hO 1 [.int 100, .int 20])) q1 (hR 3 4 (va_up ff i (some q)))) (b + 3)) : J d mX6_init (rmOf 3 73) (jZ d 73 Post) 62 [(0, .ref a), (1, .int (nI i))] [] g b := by
  refine J_w hX6_init [(62, [0, 1])] 60 ?_
  have e2 : nI i < nI 4 := by rw [nI_ltI (by omega) (by omega)]; exact hi
  have e3 : vp_in (nI i) 4 := vp_in_nI hi (by decide)
  have hb1 : b + 1 ≤ 73 := by omega
  simp only [wp_s, onDec_s, cutB_n, cutB_c, cutS_c, gate_0, gate_i, gate_l, gate_r, gate_n, gate_rf, lk_c, lk_n, selL_n, selL_c, selO_s, selO_n, rm1_n, rm1_c, rm2_n, rm2_c, cat_i, cat_l, cat_r, cat_n, cat_rf, onOpt_s, p1i_s, p2i_s, p1l_s, p2l_s, p1r_s, p1v_s, p1n_n, p1n_r, p1n_rf, onInt_s, onLong_s, onOut_v, onOut_x, isRefV_r, isRefV_n, isRefV_rf, jmp_s, lva_n, lva_i, lva_r, lva_l, popA_0, popA_1, popA_2, popA_3, popA_4, popA_5, popA_6, popA_7, popA_8, rtI_i, rtI_b, rtA_s, onX_s, onX_n, onB_t, onB_f, thr4_s, thr4_w, nzi_2, nzi_3, nzi_5, nzi_8, nzi_10, nzi_11, nzi_22, nzi_100, nzi_1000, nzl_10, nzl_100, nzl_1000, pfV_i, pfV_r, pfV_n, pfV_rf, onObj_s, onI_s, onL_s, onR_s, onLen_i, onLen_l, onLen_r, hup_s, Nat.reduceAdd, Nat.reduceMul, Nat.reduceEqDiff, Nat.reduceLT, Nat.reduceLeDiff, Nat.reduceSub, Nat.succ_ne_self, Nat.zero_add, Nat.zero_le, ↓reduceIte, true_and, and_true, if_false, if_true, eq_self, reduceCtorEq, and_self, true_implies, false_implies, or_true, true_or, or_false, false_or, not_true_eq_false, not_false_eq_true, Int.cast_ofNat_Int, Int.reduceAdd, Int.reduceToNat, Int.reduceLE, Int.reduceSub, Int.reduceNeg, List.map_cons, List.map_nil, List.sum_cons, List.sum_nil, List.cons_append, List.nil_append, Option.toList_some, Option.toList_none, List.getElem?_cons_zero, List.getElem?_cons_succ, List.set_cons_zero, List.set_cons_succ, List.length_cons, List.length_nil, Option.some.injEq, exists_eq_left, exists_eq_right, exists_eq_left', ne_eq, Nat.reduceDiv, Nat.le_refl, Bool.false_eq_true, implies_true, forall_eq, forall_eq', dX6_init_0, sp_aload_n0, dX6_init_1, sp_invokespecial, ot_6_1, dX6_init_4, dX6_init_5, sp_iconst_4, dX6_init_6, sp_anewarray, at_6_9, dX6_init_9, sp_putfield, ft_6_11, dX6_init_12, dX6_init_13, sp_bipush_60, dX6_init_15, at_6_15, dX6_init_18, ft_6_17, dX6_init_21, dX6_init_22, sp_bipush_12, dX6_init_24, at_6_21, dX6_init_27, ft_6_23, dX6_init_30, dX6_init_31, sp_new, ct_6_27, xt_6_27, dX6_init_34, sp_dup, dX6_init_35, mt_6_29, ot_6_29, dX6_init_38, ft_6_30, dX6_init_41, dX6_init_42, sp_iconst_5, dX6_init_43, at_6_34, dX6_init_46, ft_6_36, dX6_init_49, dX6_init_50, ct_6_40, xt_6_40, dX6_init_53, dX6_init_54, mt_6_42, ot_6_42, dX6_init_57, ft_6_43, dX6_init_60, sp_iconst_0, dX6_init_61, sp_istore_n1, dX6_init_62, sp_iload_n1, dX6_init_63, dX6_init_64, sp_getfield, dX6_init_67, sp_arraylength, dX6_init_68, sp_if_icmp_ge, dX6_init_71, dX6_init_72, dX6_init_75, dX6_init_76, ct_6_9, xt_6_9, dX6_init_79, dX6_init_80, mt_6_47, ot_6_47, dX6_init_83, sp_aastore, dX6_init_84, sp_iinc_1, dX6_init_87, sp_goto, dX6_init_90, sp_return_, ha, hq1, alen_nI, e2, dfl_1, hb, hb1]
  intro q hq
  have hqa : a ≠ q := fun e => by rw [e, hq] at ha; cases ha
  have hqq : q1 ≠ q := fun e => by rw [e, hq] at hq1; cases hq1
  have m1 : ∀ o, hup g q o a = g a := fun o => hup_n hqa
  have m2 : ∀ o, hup g q o q1 = g q1 := fun o => hup_n hqq
  refine ⟨0, 0, by decide, by omega, c_X1_init hup_s ?_⟩
  have hJ := hJ q hq
  rw [nI_succ] at hJ
  simp only [wp_s, onDec_s, cutB_n, cutB_c, cutS_c, gate_0, gate_i, gate_l, gate_r, gate_n, gate_rf, lk_c, lk_n, selL_n, selL_c, selO_s, selO_n, rm1_n, rm1_c, rm2_n, rm2_c, cat_i, cat_l, cat_r, cat_n, cat_rf, onOpt_s, p1i_s, p2i_s, p1l_s, p2l_s, p1r_s, p1v_s, p1n_n, p1n_r, p1n_rf, onInt_s, onLong_s, onOut_v, onOut_x, isRefV_r, isRefV_n, isRefV_rf, jmp_s, lva_n, lva_i, lva_r, lva_l, popA_0, popA_1, popA_2, popA_3, popA_4, popA_5, popA_6, popA_7, popA_8, rtI_i, rtI_b, rtA_s, onX_s, onX_n, onB_t, onB_f, thr4_s, thr4_w, nzi_2, nzi_3, nzi_5, nzi_8, nzi_10, nzi_11, nzi_22, nzi_100, nzi_1000, nzl_10, nzl_100, nzl_1000, pfV_i, pfV_r, pfV_n, pfV_rf, onObj_s, onI_s, onL_s, onR_s, onLen_i, onLen_l, onLen_r, hup_s, Nat.reduceAdd, Nat.reduceMul, Nat.reduceEqDiff, Nat.reduceLT, Nat.reduceLeDiff, Nat.reduceSub, Nat.succ_ne_self, Nat.zero_add, Nat.zero_le, ↓reduceIte, true_and, and_true, if_false, if_true, eq_self, reduceCtorEq, and_self, true_implies, false_implies, or_true, true_or, or_false, false_or, not_true_eq_false, not_false_eq_true, Int.cast_ofNat_Int, Int.reduceAdd, Int.reduceToNat, Int.reduceLE, Int.reduceSub, Int.reduceNeg, List.map_cons, List.map_nil, List.sum_cons, List.sum_nil, List.cons_append, List.nil_append, Option.toList_some, Option.toList_none, List.getElem?_cons_zero, List.getElem?_cons_succ, List.set_cons_zero, List.set_cons_succ, List.length_cons, List.length_nil, Option.some.injEq, exists_eq_left, exists_eq_right, exists_eq_left', ne_eq, Nat.reduceDiv, Nat.le_refl, Bool.false_eq_true, implies_true, forall_eq, forall_eq', dX6_init_0, sp_aload_n0, dX6_init_1, sp_invokespecial, ot_6_1, dX6_init_4, dX6_init_5, sp_iconst_4, dX6_init_6, sp_anewarray, at_6_9, dX6_init_9, sp_putfield, ft_6_11, dX6_init_12, dX6_init_13, sp_bipush_60, dX6_init_15, at_6_15, dX6_init_18, ft_6_17, dX6_init_21, dX6_init_22, sp_bipush_12, dX6_init_24, at_6_21, dX6_init_27, ft_6_23, dX6_init_30, dX6_init_31, sp_new, ct_6_27, xt_6_27, dX6_init_34, sp_dup, dX6_init_35, mt_6_29, ot_6_29, dX6_init_38, ft_6_30, dX6_init_41, dX6_init_42, sp_iconst_5, dX6_init_43, at_6_34, dX6_init_46, ft_6_36, dX6_init_49, dX6_init_50, ct_6_40, xt_6_40, dX6_init_53, dX6_init_54, mt_6_42, ot_6_42, dX6_init_57, ft_6_43, dX6_init_60, sp_iconst_0, dX6_init_61, sp_istore_n1, dX6_init_62, sp_iload_n1, dX6_init_63, dX6_init_64, sp_getfield, dX6_init_67, sp_arraylength, dX6_init_68, sp_if_icmp_ge, dX6_init_71, dX6_init_72, dX6_init_75, dX6_init_76, ct_6_9, xt_6_9, dX6_init_79, dX6_init_80, mt_6_47, ot_6_47, dX6_init_83, sp_aastore, dX6_init_84, sp_iinc_1, dX6_init_87, sp_goto, dX6_init_90, sp_return_, ha, hq1, m1, m2, alen_nI, e2, e3, hup_hup, cl_nI (show i < 2 ^ 31 by omega)]
  exact hJ
end C59
