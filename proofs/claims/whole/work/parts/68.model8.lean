-- CONTRACTS OF THE MODEL: harm, wear, load, yarns
theorem imin_alt {x y : Int32} : (if x < y then x else y) = imin x y := by
  unfold imin
  by_cases h1 : x < y
  · rw [if_pos h1]
    by_cases h2 : y < x
    · rw [Int32.lt_iff_toInt_lt] at h1 h2; omega
    · rw [if_neg h2]
  · rw [if_neg h1]
    by_cases h2 : y < x
    · rw [if_pos h2]
    · rw [if_neg h2]
      rw [Int32.lt_iff_toInt_lt] at h1 h2
      exact Int32.toInt_inj.mp (by omega)
theorem rmw_line {S S2 : St} {c : Nat → Nat} {F F2 : Nat → Nat → Int32} {i : Nat} (hR : RMw S c F) (hi : i < S.nl) (h1 : S2.1 = S.1) (ht : S2.2.2.1 = S.2.2.1) (hs : ∀ f j, (j ≠ i ∨ 9 ≤ f) → S2.2.1 f j = S.2.1 f j) (hF : ∀ k j, (j ≠ i ∨ k < 3 ∨ 12 ≤ k) → F2 k j = F k j) (hv : ∀ f, f < 9 → F2 (f + 3) i = S2.2.1 f i) : RMw S2 c F2 := by
  refine hR.keepC ?_ (hR.2.2.1.upd hi (by rw [h1]) (fun f j hf hj => hs f j (Or.inl hj)) (fun k j h3 h12 hj => hF k j (Or.inl hj)) hv) ⟨by rw [h1], by rw [h1], fun f _ => by rw [h1]⟩ (fun f hf => funext fun j => hs f j (Or.inr hf)) ht (fun k hk => funext fun j => hF k j (Or.inr hk))
  have := hR.1
  unfold cntM at this ⊢
  rw [h1]
  exact this
def bearA (S : St) (i : Nat) : Int32 := ((S.i 3 i).toInt64 * (1000 - S.i 6 i).toInt64 / 1000).toInt32
section C68
variable {d : DD} {g : HP} {Post : Out → HP → Prop} {M : Nat → Nat} {r : Int32} {S : St}
theorem bear_eq {c : Nat → Nat} {F : Nat → Nat → Int32} (hR : RMw S c F) {i : Nat} (hi : i < S.nl) : bearM F i = bearA S i := by
  obtain ⟨l0, l1, l2, l3, l4, l5, l6, l7, l8⟩ := hR.li hi
  unfold bearM bearA
  rw [l3, l6]
set_option maxRecDepth 100000 in
set_option maxHeartbeats 4000000 in
theorem c_X7_harm {i : Nat} {x : Int32} (hW : MW M S r g) (hS : S.nl ≤ 60) (hi : i < S.nl) (h : ∀ g2, MW M (harmS S i (imin 1000 (S.i 6 i + x))) r g2 → frM M g g2 → Post (.inl (some (.int (if wz (imin 1000 (S.i 6 i + x)) (S.i 7 i) = 3 then 1 else 0)))) g2) : Ct d mX7_harm 0 0 [.ref (M 0), .int (nI i), .int x] g Post := by
  obtain ⟨c, F, hM, hR⟩ := hW
  obtain ⟨m0, -, -, -, -, -, -, -, -, m9, m10, -⟩ := hM.ar
  obtain ⟨l0, l1, l2, l3, l4, l5, l6, l7, l8⟩ := hR.li hi
  have hj := hM.2.2
  have hh : ∀ {g : HP} {i j : Nat} {o : HObj}, (i == j) = false → i ≤ 20 → j ≤ 20 → hup g (M i) o (M j) = g (M j) := fun a b c => hupM hj a b c
  have e3 : vp_in (nI i) 60 := vp_in_nI (by omega) (by decide)
  have ecl := cl_nI (show i < 2 ^ 31 by omega)
  obtain ⟨m, hm⟩ : ∃ m, m = imin 1000 (S.i 6 i + x) := ⟨_, rfl⟩
  obtain ⟨z, hz⟩ : ∃ z, z = wz m (S.i 7 i) := ⟨_, rfl⟩
  rw [← hm, ← hz] at h
  have hW2 : MW M (harmS S i m) r (hup (hup g (M 9) (hI 0 60 (upd (F 9) i m))) (M 10) (hI 0 60 (upd (F 10) i z))) := by
    refine ⟨c, upF (upF F 9 (upd (F 9) i m)) 10 (upd (F 10) i z), (hM.wr 9 (by decide) (by decide) (upd (F 9) i m)).wr 10 (by decide) (by decide) (upd (F 10) i z), ?_⟩
    refine rmw_line hR hi rfl rfl (fun f j hj => by simp only [harmS, stI]; rw [if_neg (by omega), if_neg (by omega)]) (fun k j hj => ?_) (fun f hf => ?_)
    · unfold upF
      split
      · next e =>
        rcases hj with hj | hj
        · rw [e, upd_n hj]
        · omega
      · split
        · next e =>
          rcases hj with hj | hj
          · rw [e, upd_n hj]
          · omega
        · rfl
    · have : f = 0 ∨ f = 1 ∨ f = 2 ∨ f = 3 ∨ f = 4 ∨ f = 5 ∨ f = 6 ∨ f = 7 ∨ f = 8 := by omega
      rcases this with rfl | rfl | rfl | rfl | rfl | rfl | rfl | rfl | rfl
      · simp [upF, l0, harmS, stI, St.i]
      · simp [upF, l1, harmS, stI, St.i]
      · simp [upF, l2, harmS, stI, St.i]
      · simp [upF, l3, harmS, stI, St.i]
      · simp [upF, l4, harmS, stI, St.i]
      · simp [upF, l5, harmS, stI, St.i]
      · simp [upF, upd, harmS, stI, St.i]
      · simp [upF, upd, harmS, stI, hz]
      · simp [upF, l8, harmS, stI, St.i]
  have h9 := h _ hW2 ((frM.rf.up (by decide)).up (by decide))
  have k61 : ∀ z2, z2 = z → J d mX7_harm (rmOf 0 0) (jZ d 0 Post) 61 [(0, .ref (M 0)), (1, .int (nI i))] [.int z2, .int (nI i), .ref (M 10)] (hup g (M 9) (hI 0 60 (upd (F 9) i m))) 0 := by
    intro z2 hz2
    subst hz2
    refine J_w hX7_harm [] 60 ?_
    simp only [wp_s, onDec_s, cutB_n, cutB_c, cutS_c, gate_0, gate_i, gate_l, gate_r, gate_n, gate_rf, lk_c, lk_n, selL_n, selL_c, selO_s, selO_n, rm1_n, rm1_c, rm2_n, rm2_c, cat_i, cat_l, cat_r, cat_n, cat_rf, onOpt_s, p1i_s, p2i_s, p1l_s, p2l_s, p1r_s, p1v_s, p1n_n, p1n_r, p1n_rf, onInt_s, onLong_s, onOut_v, onOut_x, isRefV_r, isRefV_n, isRefV_rf, jmp_s, lva_n, lva_i, lva_r, lva_l, popA_0, popA_1, popA_2, popA_3, popA_4, popA_5, popA_6, popA_7, popA_8, rtI_i, rtI_b, rtA_s, onX_s, onX_n, onB_t, onB_f, thr4_s, thr4_w, nzi_2, nzi_3, nzi_5, nzi_8, nzi_10, nzi_11, nzi_22, nzi_100, nzi_1000, nzl_10, nzl_100, nzl_1000, pfV_i, pfV_r, pfV_n, pfV_rf, onObj_s, onI_s, onL_s, onR_s, onLen_i, onLen_l, onLen_r, hup_s, Nat.reduceAdd, Nat.reduceMul, Nat.reduceEqDiff, Nat.reduceLT, Nat.reduceLeDiff, Nat.reduceSub, Nat.succ_ne_self, Nat.zero_add, Nat.zero_le, ↓reduceIte, true_and, and_true, if_false, if_true, eq_self, reduceCtorEq, and_self, true_implies, false_implies, or_true, true_or, or_false, false_or, not_true_eq_false, not_false_eq_true, Int.cast_ofNat_Int, Int.reduceAdd, Int.reduceToNat, Int.reduceLE, Int.reduceSub, Int.reduceNeg, List.map_cons, List.map_nil, List.sum_cons, List.sum_nil, List.cons_append, List.nil_append, Option.toList_some, Option.toList_none, List.getElem?_cons_zero, List.getElem?_cons_succ, List.set_cons_zero, List.set_cons_succ, List.length_cons, List.length_nil, Option.some.injEq, exists_eq_left, exists_eq_right, exists_eq_left', ne_eq, Nat.reduceDiv, Nat.le_refl, Bool.false_eq_true, implies_true, forall_eq, forall_eq', dX7_harm_0, sp_aload_n0, dX7_harm_1, sp_getfield, ft_7_34, dX7_harm_4, sp_iload_n1, dX7_harm_5, dX7_harm_6, dX7_harm_9, dX7_harm_10, sp_iaload, dX7_harm_11, sp_iload_n2, dX7_harm_12, sp_iadd, dX7_harm_13, sp_sipush_1000, dX7_harm_16, sp_if_icmp_le, dX7_harm_19, dX7_harm_22, sp_goto, dX7_harm_25, dX7_harm_26, dX7_harm_29, dX7_harm_30, dX7_harm_31, dX7_harm_32, dX7_harm_33, sp_iastore, dX7_harm_34, dX7_harm_35, ft_7_37, dX7_harm_38, dX7_harm_39, dX7_harm_40, dX7_harm_43, dX7_harm_44, dX7_harm_45, sp_sipush_300, dX7_harm_48, sp_if_icmp_lt, dX7_harm_51, sp_iconst_3, dX7_harm_52, dX7_harm_55, dX7_harm_56, dX7_harm_59, dX7_harm_60, dX7_harm_61, dX7_harm_62, dX7_harm_63, dX7_harm_66, dX7_harm_67, dX7_harm_68, dX7_harm_69, sp_if_icmp_ne, dX7_harm_72, sp_iconst_1, dX7_harm_73, dX7_harm_76, sp_iconst_0, dX7_harm_77, sp_ireturn, m0, m9, m10, hh, Nat.reduceBEq, Nat.reduceLeDiff, e3, ecl, upd_s]
    exact ⟨fun q => by rw [if_pos q] at h9; exact h9, fun q => by rw [if_neg q] at h9; exact h9⟩
  have k33 : ∀ m2, m2 = m → J d mX7_harm (rmOf 0 0) (jZ d 0 Post) 33 [(0, .ref (M 0)), (1, .int (nI i)), (2, .int x)] [.int m2, .int (nI i), .ref (M 9)] g 0 := by
    intro m2 hm2
    subst hm2
    refine J_w hX7_harm [(61, [0, 1])] 60 ?_
    simp only [wp_s, onDec_s, cutB_n, cutB_c, cutS_c, gate_0, gate_i, gate_l, gate_r, gate_n, gate_rf, lk_c, lk_n, selL_n, selL_c, selO_s, selO_n, rm1_n, rm1_c, rm2_n, rm2_c, cat_i, cat_l, cat_r, cat_n, cat_rf, onOpt_s, p1i_s, p2i_s, p1l_s, p2l_s, p1r_s, p1v_s, p1n_n, p1n_r, p1n_rf, onInt_s, onLong_s, onOut_v, onOut_x, isRefV_r, isRefV_n, isRefV_rf, jmp_s, lva_n, lva_i, lva_r, lva_l, popA_0, popA_1, popA_2, popA_3, popA_4, popA_5, popA_6, popA_7, popA_8, rtI_i, rtI_b, rtA_s, onX_s, onX_n, onB_t, onB_f, thr4_s, thr4_w, nzi_2, nzi_3, nzi_5, nzi_8, nzi_10, nzi_11, nzi_22, nzi_100, nzi_1000, nzl_10, nzl_100, nzl_1000, pfV_i, pfV_r, pfV_n, pfV_rf, onObj_s, onI_s, onL_s, onR_s, onLen_i, onLen_l, onLen_r, hup_s, Nat.reduceAdd, Nat.reduceMul, Nat.reduceEqDiff, Nat.reduceLT, Nat.reduceLeDiff, Nat.reduceSub, Nat.succ_ne_self, Nat.zero_add, Nat.zero_le, ↓reduceIte, true_and, and_true, if_false, if_true, eq_self, reduceCtorEq, and_self, true_implies, false_implies, or_true, true_or, or_false, false_or, not_true_eq_false, not_false_eq_true, Int.cast_ofNat_Int, Int.reduceAdd, Int.reduceToNat, Int.reduceLE, Int.reduceSub, Int.reduceNeg, List.map_cons, List.map_nil, List.sum_cons, List.sum_nil, List.cons_append, List.nil_append, Option.toList_some, Option.toList_none, List.getElem?_cons_zero, List.getElem?_cons_succ, List.set_cons_zero, List.set_cons_succ, List.length_cons, List.length_nil, Option.some.injEq, exists_eq_left, exists_eq_right, exists_eq_left', ne_eq, Nat.reduceDiv, Nat.le_refl, Bool.false_eq_true, implies_true, forall_eq, forall_eq', dX7_harm_0, sp_aload_n0, dX7_harm_1, sp_getfield, ft_7_34, dX7_harm_4, sp_iload_n1, dX7_harm_5, dX7_harm_6, dX7_harm_9, dX7_harm_10, sp_iaload, dX7_harm_11, sp_iload_n2, dX7_harm_12, sp_iadd, dX7_harm_13, sp_sipush_1000, dX7_harm_16, sp_if_icmp_le, dX7_harm_19, dX7_harm_22, sp_goto, dX7_harm_25, dX7_harm_26, dX7_harm_29, dX7_harm_30, dX7_harm_31, dX7_harm_32, dX7_harm_33, sp_iastore, dX7_harm_34, dX7_harm_35, ft_7_37, dX7_harm_38, dX7_harm_39, dX7_harm_40, dX7_harm_43, dX7_harm_44, dX7_harm_45, sp_sipush_300, dX7_harm_48, sp_if_icmp_lt, dX7_harm_51, sp_iconst_3, dX7_harm_52, dX7_harm_55, dX7_harm_56, dX7_harm_59, dX7_harm_60, dX7_harm_61, dX7_harm_62, dX7_harm_63, dX7_harm_66, dX7_harm_67, dX7_harm_68, dX7_harm_69, sp_if_icmp_ne, dX7_harm_72, sp_iconst_1, dX7_harm_73, dX7_harm_76, sp_iconst_0, dX7_harm_77, sp_ireturn, m0, m9, m10, hh, Nat.reduceBEq, Nat.reduceLeDiff, e3, ecl, upd_s, l7]
    exact ⟨fun q => k61 _ (by rw [hz]; unfold wz; rw [if_pos q]), fun q => k61 _ (by rw [hz]; unfold wz; rw [if_neg q])⟩
  refine Ct_w hX7_harm [(33, [0, 1, 2])] 60 rfl ?_
  simp only [wp_s, onDec_s, cutB_n, cutB_c, cutS_c, gate_0, gate_i, gate_l, gate_r, gate_n, gate_rf, lk_c, lk_n, selL_n, selL_c, selO_s, selO_n, rm1_n, rm1_c, rm2_n, rm2_c, cat_i, cat_l, cat_r, cat_n, cat_rf, onOpt_s, p1i_s, p2i_s, p1l_s, p2l_s, p1r_s, p1v_s, p1n_n, p1n_r, p1n_rf, onInt_s, onLong_s, onOut_v, onOut_x, isRefV_r, isRefV_n, isRefV_rf, jmp_s, lva_n, lva_i, lva_r, lva_l, popA_0, popA_1, popA_2, popA_3, popA_4, popA_5, popA_6, popA_7, popA_8, rtI_i, rtI_b, rtA_s, onX_s, onX_n, onB_t, onB_f, thr4_s, thr4_w, nzi_2, nzi_3, nzi_5, nzi_8, nzi_10, nzi_11, nzi_22, nzi_100, nzi_1000, nzl_10, nzl_100, nzl_1000, pfV_i, pfV_r, pfV_n, pfV_rf, onObj_s, onI_s, onL_s, onR_s, onLen_i, onLen_l, onLen_r, hup_s, Nat.reduceAdd, Nat.reduceMul, Nat.reduceEqDiff, Nat.reduceLT, Nat.reduceLeDiff, Nat.reduceSub, Nat.succ_ne_self, Nat.zero_add, Nat.zero_le, ↓reduceIte, true_and, and_true, if_false, if_true, eq_self, reduceCtorEq, and_self, true_implies, false_implies, or_true, true_or, or_false, false_or, not_true_eq_false, not_false_eq_true, Int.cast_ofNat_Int, Int.reduceAdd, Int.reduceToNat, Int.reduceLE, Int.reduceSub, Int.reduceNeg, List.map_cons, List.map_nil, List.sum_cons, List.sum_nil, List.cons_append, List.nil_append, Option.toList_some, Option.toList_none, List.getElem?_cons_zero, List.getElem?_cons_succ, List.set_cons_zero, List.set_cons_succ, List.length_cons, List.length_nil, Option.some.injEq, exists_eq_left, exists_eq_right, exists_eq_left', ne_eq, Nat.reduceDiv, Nat.le_refl, Bool.false_eq_true, implies_true, forall_eq, forall_eq', dX7_harm_0, sp_aload_n0, dX7_harm_1, sp_getfield, ft_7_34, dX7_harm_4, sp_iload_n1, dX7_harm_5, dX7_harm_6, dX7_harm_9, dX7_harm_10, sp_iaload, dX7_harm_11, sp_iload_n2, dX7_harm_12, sp_iadd, dX7_harm_13, sp_sipush_1000, dX7_harm_16, sp_if_icmp_le, dX7_harm_19, dX7_harm_22, sp_goto, dX7_harm_25, dX7_harm_26, dX7_harm_29, dX7_harm_30, dX7_harm_31, dX7_harm_32, dX7_harm_33, sp_iastore, dX7_harm_34, dX7_harm_35, ft_7_37, dX7_harm_38, dX7_harm_39, dX7_harm_40, dX7_harm_43, dX7_harm_44, dX7_harm_45, sp_sipush_300, dX7_harm_48, sp_if_icmp_lt, dX7_harm_51, sp_iconst_3, dX7_harm_52, dX7_harm_55, dX7_harm_56, dX7_harm_59, dX7_harm_60, dX7_harm_61, dX7_harm_62, dX7_harm_63, dX7_harm_66, dX7_harm_67, dX7_harm_68, dX7_harm_69, sp_if_icmp_ne, dX7_harm_72, sp_iconst_1, dX7_harm_73, dX7_harm_76, sp_iconst_0, dX7_harm_77, sp_ireturn, m0, m9, e3, ecl, l6]
  exact ⟨fun q => k33 _ (by rw [hm, ← imin_alt, if_pos q]), fun q => k33 _ (by rw [hm, ← imin_alt, if_neg q])⟩
set_option maxRecDepth 100000 in
set_option maxHeartbeats 4000000 in
theorem c_X7_wear {i : Nat} {f : Int32} (hW : MW M S r g) (hS : S.nl ≤ 60) (hi : i < S.nl) (hb : bearA S i = bearS S i) (hb0 : ¬ (bearS S i).toInt64 = 0) (hq : (10 * f.toInt64 / (bearS S i).toInt64).toInt32 = 10 * f / bearS S i) (h : ∀ g2, MW M (harmS S i (imin 1000 (S.i 6 i + 10 * f / bearS S i * (10 * f / bearS S i)))) r g2 → frM M g g2 → Post (.inl none) g2) : Ct d mX7_wear 1 0 [.ref (M 0), .int (nI i), .int f] g Post := by
  obtain ⟨c, F, hM, hR⟩ := id hW
  have m0 := hM.ar.1
  have e1 := bear_eq hR hi
  rw [hb] at e1
  refine Ct_w hX7_wear [] 60 rfl ?_
  simp only [wp_s, onDec_s, cutB_n, cutB_c, cutS_c, gate_0, gate_i, gate_l, gate_r, gate_n, gate_rf, lk_c, lk_n, selL_n, selL_c, selO_s, selO_n, rm1_n, rm1_c, rm2_n, rm2_c, cat_i, cat_l, cat_r, cat_n, cat_rf, onOpt_s, p1i_s, p2i_s, p1l_s, p2l_s, p1r_s, p1v_s, p1n_n, p1n_r, p1n_rf, onInt_s, onLong_s, onOut_v, onOut_x, isRefV_r, isRefV_n, isRefV_rf, jmp_s, lva_n, lva_i, lva_r, lva_l, popA_0, popA_1, popA_2, popA_3, popA_4, popA_5, popA_6, popA_7, popA_8, rtI_i, rtI_b, rtA_s, onX_s, onX_n, onB_t, onB_f, thr4_s, thr4_w, nzi_2, nzi_3, nzi_5, nzi_8, nzi_10, nzi_11, nzi_22, nzi_100, nzi_1000, nzl_10, nzl_100, nzl_1000, pfV_i, pfV_r, pfV_n, pfV_rf, onObj_s, onI_s, onL_s, onR_s, onLen_i, onLen_l, onLen_r, hup_s, Nat.reduceAdd, Nat.reduceMul, Nat.reduceEqDiff, Nat.reduceLT, Nat.reduceLeDiff, Nat.reduceSub, Nat.succ_ne_self, Nat.zero_add, Nat.zero_le, ↓reduceIte, true_and, and_true, if_false, if_true, eq_self, reduceCtorEq, and_self, true_implies, false_implies, or_true, true_or, or_false, false_or, not_true_eq_false, not_false_eq_true, Int.cast_ofNat_Int, Int.reduceAdd, Int.reduceToNat, Int.reduceLE, Int.reduceSub, Int.reduceNeg, List.map_cons, List.map_nil, List.sum_cons, List.sum_nil, List.cons_append, List.nil_append, Option.toList_some, Option.toList_none, List.getElem?_cons_zero, List.getElem?_cons_succ, List.set_cons_zero, List.set_cons_succ, List.length_cons, List.length_nil, Option.some.injEq, exists_eq_left, exists_eq_right, exists_eq_left', ne_eq, Nat.reduceDiv, Nat.le_refl, Bool.false_eq_true, implies_true, forall_eq, forall_eq', dX7_wear_0, sp_ldc2_w, lt_7_123, dX7_wear_3, sp_iload_n2, dX7_wear_4, sp_i2l, dX7_wear_5, sp_lmul, dX7_wear_6, sp_aload_n0, dX7_wear_7, sp_iload_n1, dX7_wear_8, sp_invokevirtual, mt_7_113, dX7_wear_11, dX7_wear_12, sp_ldiv, dX7_wear_13, sp_l2i, dX7_wear_14, sp_istore_n3, dX7_wear_15, dX7_wear_16, dX7_wear_17, sp_iload_n3, dX7_wear_18, dX7_wear_19, sp_imul, dX7_wear_20, mt_7_125, dX7_wear_23, sp_pop, dX7_wear_24, sp_return_, m0]
  refine ⟨0, 0, by decide, by decide, c_X7_bears hM (by omega) ?_⟩
  rw [e1]
  simp only [wp_s, onDec_s, cutB_n, cutB_c, cutS_c, gate_0, gate_i, gate_l, gate_r, gate_n, gate_rf, lk_c, lk_n, selL_n, selL_c, selO_s, selO_n, rm1_n, rm1_c, rm2_n, rm2_c, cat_i, cat_l, cat_r, cat_n, cat_rf, onOpt_s, p1i_s, p2i_s, p1l_s, p2l_s, p1r_s, p1v_s, p1n_n, p1n_r, p1n_rf, onInt_s, onLong_s, onOut_v, onOut_x, isRefV_r, isRefV_n, isRefV_rf, jmp_s, lva_n, lva_i, lva_r, lva_l, popA_0, popA_1, popA_2, popA_3, popA_4, popA_5, popA_6, popA_7, popA_8, rtI_i, rtI_b, rtA_s, onX_s, onX_n, onB_t, onB_f, thr4_s, thr4_w, nzi_2, nzi_3, nzi_5, nzi_8, nzi_10, nzi_11, nzi_22, nzi_100, nzi_1000, nzl_10, nzl_100, nzl_1000, pfV_i, pfV_r, pfV_n, pfV_rf, onObj_s, onI_s, onL_s, onR_s, onLen_i, onLen_l, onLen_r, hup_s, Nat.reduceAdd, Nat.reduceMul, Nat.reduceEqDiff, Nat.reduceLT, Nat.reduceLeDiff, Nat.reduceSub, Nat.succ_ne_self, Nat.zero_add, Nat.zero_le, ↓reduceIte, true_and, and_true, if_false, if_true, eq_self, reduceCtorEq, and_self, true_implies, false_implies, or_true, true_or, or_false, false_or, not_true_eq_false, not_false_eq_true, Int.cast_ofNat_Int, Int.reduceAdd, Int.reduceToNat, Int.reduceLE, Int.reduceSub, Int.reduceNeg, List.map_cons, List.map_nil, List.sum_cons, List.sum_nil, List.cons_append, List.nil_append, Option.toList_some, Option.toList_none, List.getElem?_cons_zero, List.getElem?_cons_succ, List.set_cons_zero, List.set_cons_succ, List.length_cons, List.length_nil, Option.some.injEq, exists_eq_left, exists_eq_right, exists_eq_left', ne_eq, Nat.reduceDiv, Nat.le_refl, Bool.false_eq_true, implies_true, forall_eq, forall_eq', dX7_wear_0, sp_ldc2_w, lt_7_123, dX7_wear_3, sp_iload_n2, dX7_wear_4, sp_i2l, dX7_wear_5, sp_lmul, dX7_wear_6, sp_aload_n0, dX7_wear_7, sp_iload_n1, dX7_wear_8, sp_invokevirtual, mt_7_113, dX7_wear_11, dX7_wear_12, sp_ldiv, dX7_wear_13, sp_l2i, dX7_wear_14, sp_istore_n3, dX7_wear_15, dX7_wear_16, dX7_wear_17, sp_iload_n3, dX7_wear_18, dX7_wear_19, sp_imul, dX7_wear_20, mt_7_125, dX7_wear_23, sp_pop, dX7_wear_24, sp_return_, m0, hb0, hq]
  refine ⟨0, 0, by decide, by decide, c_X7_harm hW hS hi (fun g2 hW2 hf2 => ?_)⟩
  simp only [wp_s, onDec_s, cutB_n, cutB_c, cutS_c, gate_0, gate_i, gate_l, gate_r, gate_n, gate_rf, lk_c, lk_n, selL_n, selL_c, selO_s, selO_n, rm1_n, rm1_c, rm2_n, rm2_c, cat_i, cat_l, cat_r, cat_n, cat_rf, onOpt_s, p1i_s, p2i_s, p1l_s, p2l_s, p1r_s, p1v_s, p1n_n, p1n_r, p1n_rf, onInt_s, onLong_s, onOut_v, onOut_x, isRefV_r, isRefV_n, isRefV_rf, jmp_s, lva_n, lva_i, lva_r, lva_l, popA_0, popA_1, popA_2, popA_3, popA_4, popA_5, popA_6, popA_7, popA_8, rtI_i, rtI_b, rtA_s, onX_s, onX_n, onB_t, onB_f, thr4_s, thr4_w, nzi_2, nzi_3, nzi_5, nzi_8, nzi_10, nzi_11, nzi_22, nzi_100, nzi_1000, nzl_10, nzl_100, nzl_1000, pfV_i, pfV_r, pfV_n, pfV_rf, onObj_s, onI_s, onL_s, onR_s, onLen_i, onLen_l, onLen_r, hup_s, Nat.reduceAdd, Nat.reduceMul, Nat.reduceEqDiff, Nat.reduceLT, Nat.reduceLeDiff, Nat.reduceSub, Nat.succ_ne_self, Nat.zero_add, Nat.zero_le, ↓reduceIte, true_and, and_true, if_false, if_true, eq_self, reduceCtorEq, and_self, true_implies, false_implies, or_true, true_or, or_false, false_or, not_true_eq_false, not_false_eq_true, Int.cast_ofNat_Int, Int.reduceAdd, Int.reduceToNat, Int.reduceLE, Int.reduceSub, Int.reduceNeg, List.map_cons, List.map_nil, List.sum_cons, List.sum_nil, List.cons_append, List.nil_append, Option.toList_some, Option.toList_none, List.getElem?_cons_zero, List.getElem?_cons_succ, List.set_cons_zero, List.set_cons_succ, List.length_cons, List.length_nil, Option.some.injEq, exists_eq_left, exists_eq_right, exists_eq_left', ne_eq, Nat.reduceDiv, Nat.le_refl, Bool.false_eq_true, implies_true, forall_eq, forall_eq', dX7_wear_0, sp_ldc2_w, lt_7_123, dX7_wear_3, sp_iload_n2, dX7_wear_4, sp_i2l, dX7_wear_5, sp_lmul, dX7_wear_6, sp_aload_n0, dX7_wear_7, sp_iload_n1, dX7_wear_8, sp_invokevirtual, mt_7_113, dX7_wear_11, dX7_wear_12, sp_ldiv, dX7_wear_13, sp_l2i, dX7_wear_14, sp_istore_n3, dX7_wear_15, dX7_wear_16, dX7_wear_17, sp_iload_n3, dX7_wear_18, dX7_wear_19, sp_imul, dX7_wear_20, mt_7_125, dX7_wear_23, sp_pop, dX7_wear_24, sp_return_]
  exact h g2 hW2 hf2
end C68
