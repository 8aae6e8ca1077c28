-- CONTRACTS OF THE MODEL: cut, order
section C65
variable {d : DD} {g : HP} {Post : Out → HP → Prop} {M : Nat → Nat} {r : Int32} {S : St}
theorem RMw.li {c : Nat → Nat} {F : Nat → Nat → Int32} (h : RMw S c F) {i : Nat} (hi : i < S.nl) : F 3 i = S.i 0 i ∧ F 4 i = S.i 1 i ∧ F 5 i = S.i 2 i ∧ F 6 i = S.i 3 i ∧ F 7 i = S.i 4 i ∧ F 8 i = S.i 5 i ∧ F 9 i = S.i 6 i ∧ F 10 i = S.i 7 i ∧ F 11 i = S.i 8 i := by
  have := h.2.2.1.1
  exact ⟨this 0 i (by decide) hi, this 1 i (by decide) hi, this 2 i (by decide) hi, this 3 i (by decide) hi, this 4 i (by decide) hi, this 5 i (by decide) hi, this 6 i (by decide) hi, this 7 i (by decide) hi, this 8 i (by decide) hi⟩
set_option maxRecDepth 100000 in
set_option maxHeartbeats 4000000 in
theorem c_X7_cutOff {i : Nat} {n : Int32} (hW : MW M S r g) (hS : S.nl < 60) (hi : i < S.nl) (hz : S.i 7 i = 0) (hd : (0 < S.i 2 i - n) ↔ ¬ S.i 2 i - n = 0) (h : ∀ g2, MW M (pieS S i n) r g2 → frM M g g2 → Post (.inl (some (.int (nI S.nl)))) g2) : Ct d mX7_cutOff 1 0 [.ref (M 0), .int (nI i), .int n] g Post := by
  obtain ⟨c, F, hM, hR⟩ := hW
  obtain ⟨m0, -, -, m3, m4, m5, m6, m7, m8, -⟩ := hM.ar
  have hj := hM.2.2
  have hc0 : c 0 = S.nl := hR.1.1
  have hh : ∀ {g : HP} {i j : Nat} {o : HObj}, (i == j) = false → i ≤ 20 → j ≤ 20 → hup g (M i) o (M j) = g (M j) := fun a b c => hupM hj a b c
  obtain ⟨l0, l1, l2, l3, l4, l5, l6, l7, l8⟩ := hR.li hi
  have e3 : vp_in (nI i) 60 := vp_in_nI (by omega) (by decide)
  have e4 : vp_in (nI (c 0)) 60 := vp_in_nI (by omega) (by decide)
  have hne : i ≠ c 0 := by omega
  refine Ct_w hX7_cutOff [] 80 rfl ?_
  simp only [wp_s, onDec_s, cutB_n, cutB_c, cutS_c, gate_0, gate_i, gate_l, gate_r, gate_n, gate_rf, lk_c, lk_n, selL_n, selL_c, selO_s, selO_n, rm1_n, rm1_c, rm2_n, rm2_c, cat_i, cat_l, cat_r, cat_n, cat_rf, onOpt_s, p1i_s, p2i_s, p1l_s, p2l_s, p1r_s, p1v_s, p1n_n, p1n_r, p1n_rf, onInt_s, onLong_s, onOut_v, onOut_x, isRefV_r, isRefV_n, isRefV_rf, jmp_s, lva_n, lva_i, lva_r, lva_l, popA_0, popA_1, popA_2, popA_3, popA_4, popA_5, popA_6, popA_7, popA_8, rtI_i, rtI_b, rtA_s, onX_s, onX_n, onB_t, onB_f, thr4_s, thr4_w, nzi_2, nzi_3, nzi_5, nzi_8, nzi_10, nzi_11, nzi_22, nzi_100, nzi_1000, nzl_10, nzl_100, nzl_1000, pfV_i, pfV_r, pfV_n, pfV_rf, onObj_s, onI_s, onL_s, onR_s, onLen_i, onLen_l, onLen_r, hup_s, Nat.reduceAdd, Nat.reduceMul, Nat.reduceEqDiff, Nat.reduceLT, Nat.reduceLeDiff, Nat.reduceSub, Nat.succ_ne_self, Nat.zero_add, Nat.zero_le, ↓reduceIte, true_and, and_true, if_false, if_true, eq_self, reduceCtorEq, and_self, true_implies, false_implies, or_true, true_or, or_false, false_or, not_true_eq_false, not_false_eq_true, Int.cast_ofNat_Int, Int.reduceAdd, Int.reduceToNat, Int.reduceLE, Int.reduceSub, Int.reduceNeg, List.map_cons, List.map_nil, List.sum_cons, List.sum_nil, List.cons_append, List.nil_append, Option.toList_some, Option.toList_none, List.getElem?_cons_zero, List.getElem?_cons_succ, List.set_cons_zero, List.set_cons_succ, List.length_cons, List.length_nil, Option.some.injEq, exists_eq_left, exists_eq_right, exists_eq_left', ne_eq, Nat.reduceDiv, Nat.le_refl, Bool.false_eq_true, implies_true, forall_eq, forall_eq', dX7_cutOff_0, sp_aload_n0, dX7_cutOff_1, dX7_cutOff_2, sp_getfield, ft_7_16, dX7_cutOff_5, sp_iload_n1, dX7_cutOff_6, sp_iaload, dX7_cutOff_7, dX7_cutOff_8, ft_7_19, dX7_cutOff_11, dX7_cutOff_12, dX7_cutOff_13, sp_iload_n2, dX7_cutOff_14, dX7_cutOff_15, ft_7_25, dX7_cutOff_18, dX7_cutOff_19, dX7_cutOff_20, dX7_cutOff_21, ft_7_28, dX7_cutOff_24, dX7_cutOff_25, dX7_cutOff_26, dX7_cutOff_27, ft_7_31, dX7_cutOff_30, dX7_cutOff_31, dX7_cutOff_32, sp_invokevirtual, mt_7_97, dX7_cutOff_35, sp_istore_n3, dX7_cutOff_36, dX7_cutOff_37, ft_7_34, dX7_cutOff_40, sp_iload_n3, dX7_cutOff_41, dX7_cutOff_42, dX7_cutOff_45, dX7_cutOff_46, dX7_cutOff_47, sp_iastore, dX7_cutOff_48, dX7_cutOff_49, ft_7_40, dX7_cutOff_52, dX7_cutOff_53, dX7_cutOff_54, dX7_cutOff_57, dX7_cutOff_58, dX7_cutOff_59, dX7_cutOff_60, dX7_cutOff_61, ft_7_22, dX7_cutOff_64, dX7_cutOff_65, sp_dup2, dX7_cutOff_66, dX7_cutOff_67, dX7_cutOff_68, sp_isub, dX7_cutOff_69, dX7_cutOff_70, dX7_cutOff_71, ft_7_37, dX7_cutOff_74, dX7_cutOff_75, dX7_cutOff_76, dX7_cutOff_79, dX7_cutOff_80, dX7_cutOff_81, sp_ifCond_ne, dX7_cutOff_84, sp_iconst_1, dX7_cutOff_85, sp_goto, dX7_cutOff_88, sp_iconst_0, dX7_cutOff_89, dX7_cutOff_90, dX7_cutOff_91, sp_ireturn, m0, m3, m4, m5, m6, m7, m8, e3, cl_nI (show i < 2 ^ 31 by omega)]
  refine ⟨0, 0, by decide, by decide, c_X7_add hM (by omega) (fun g3 hM3 hf3 => ?_)⟩
  obtain ⟨F1, hF1⟩ : ∃ z, z = addM F (c 0) (F 3 i) (F 4 i) n (F 6 i) (F 7 i) (F 8 i) := ⟨_, rfl⟩
  rw [← hF1] at hM3
  obtain ⟨p0, -, -, -, -, p5, -, -, -, p9, p10, p11, -⟩ := hM3.ar
  have f5 : F1 5 i = S.i 2 i := by rw [hF1, addM_n hne]; exact l2
  have f9 : F1 9 i = S.i 6 i := by rw [hF1, addM_n hne]; exact l6
  have f11 : F1 11 i = S.i 8 i := by rw [hF1, addM_n hne]; exact l8
  have fin : ∀ z, z = (if 0 < S.i 2 i - n then S.i 7 i else 1) → Post (.inl (some (.int (nI (c 0))))) (hup (hup (hup (hup g3 (M 9) (hI 0 60 (upd (F1 9) (c 0) (S.i 6 i)))) (M 11) (hI 0 60 (upd (F1 11) (c 0) (S.i 8 i)))) (M 5) (hI 0 60 (upd (F1 5) i (S.i 2 i - n)))) (M 10) (hI 0 60 (upd (F1 10) i z))) := by
    intro z hz2
    rw [hc0]
    refine h _ ⟨upC c 0 (c 0 + 1), upF (upF (upF (upF F1 9 (upd (F1 9) (c 0) (S.i 6 i))) 11 (upd (F1 11) (c 0) (S.i 8 i))) 5 (upd (F1 5) i (S.i 2 i - n))) 10 (upd (F1 10) i z), ?_, ?_⟩ (hf3.tr ((((frM.rf.up (by decide)).up (by decide)).up (by decide)).up (by decide)))
    · exact hc0 ▸ ((((hM3.wr 9 (by decide) (by decide) (upd (F1 9) (c 0) (S.i 6 i))).wr 11 (by decide) (by decide) (upd (F1 11) (c 0) (S.i 8 i))).wr 5 (by decide) (by decide) (upd (F1 5) i (S.i 2 i - n))).wr 10 (by decide) (by decide) (upd (F1 10) i z))
    · obtain ⟨F2, hF2⟩ : ∃ y, y = upF (upF (upF (upF F1 9 (upd (F1 9) (c 0) (S.i 6 i))) 11 (upd (F1 11) (c 0) (S.i 8 i))) 5 (upd (F1 5) i (S.i 2 i - n))) 10 (upd (F1 10) i z) := ⟨_, rfl⟩
      rw [← hF2]
      have hoth : ∀ k j, j ≠ i → j ≠ c 0 → F2 k j = F k j := fun k j h1 h2 => by
        rw [hF2]
        have : F1 k j = F k j := by rw [hF1, addM_n h2]
        unfold upF
        split
        · next e => rw [e, upd_n h1, ← e]; exact this
        · split
          · next e => rw [e, upd_n h1, ← e]; exact this
          · split
            · next e => rw [e, upd_n h2, ← e]; exact this
            · split
              · next e => rw [e, upd_n h2, ← e]; exact this
              · exact this
      obtain ⟨b3, b4, b5, b6, b7, b8⟩ := addM_s (F := F) (n := c 0) (a3 := F 3 i) (a4 := F 4 i) (a5 := n) (a6 := F 6 i) (a7 := F 7 i) (a8 := F 8 i)
      rw [← hF1] at b3 b4 b5 b6 b7 b8
      have hlo : ∀ k, (k < 3 ∨ 12 ≤ k) → F2 k = F k := fun k hk => by
        rw [hF2, upF_o (by omega), upF_o (by omega), upF_o (by omega), upF_o (by omega), hF1, addM_o (by omega)]
      have hf1i : ∀ k, F1 k i = F k i := fun k => by rw [hF1, addM_n hne]
      refine rmw_new hR (S1 := lcut S i n) rfl (fun f hf => funext fun j => by simp only [lcut, stI]; rw [if_neg (by omega), if_neg (by omega)]) rfl ?_ hlo
      refine RMl.new (S := lcut S i n) (F := fun k j => if j = c 0 then F k j else F2 k j) ?_ (fun k j h3 h12 hj2 => ?_) (fun f hf => ?_)
      · refine hR.2.2.1.upd (i := i) hi rfl (fun f j hf hj2 => by simp only [lcut, stI]; rw [if_neg (by omega), if_neg (by omega)]) (fun k j h3 h12 hj2 => ?_) (fun f hf => ?_)
        · show (if j = c 0 then F k j else F2 k j) = F k j
          by_cases e : j = c 0
          · rw [if_pos e]
          · rw [if_neg e]; exact hoth k j hj2 e
        · show (if i = c 0 then F (f + 3) i else F2 (f + 3) i) = (lcut S i n).2.1 f i
          rw [if_neg hne, hF2]
          have : f = 0 ∨ f = 1 ∨ f = 2 ∨ f = 3 ∨ f = 4 ∨ f = 5 ∨ f = 6 ∨ f = 7 ∨ f = 8 := by omega
          rcases this with rfl | rfl | rfl | rfl | rfl | rfl | rfl | rfl | rfl
          · simp [upF, hf1i, l0, lcut, stI, St.i]
          · simp [upF, hf1i, l1, lcut, stI, St.i]
          · simp [upF, upd, lcut, stI, St.i]
          · simp [upF, hf1i, l3, lcut, stI, St.i]
          · simp [upF, hf1i, l4, lcut, stI, St.i]
          · simp [upF, hf1i, l5, lcut, stI, St.i]
          · simp [upF, upd, hne, hf1i, l6, lcut, stI, St.i]
          · simp [upF, upd, lcut, stI, St.i, hz2]
          · simp [upF, upd, hne, hf1i, l8, lcut, stI, St.i]
      · show F2 k j = if j = c 0 then F k j else F2 k j
        rw [if_neg (fun e => hj2 (by rw [e]; exact hc0))]
      · have e0 : (lcut S i n).1 0 0 = c 0 := hc0.symm
        have hz10 := (hR.2.2.1.2 (c 0) (by show S.nl ≤ c 0; omega) (by omega)).2
        have hf10 : F1 10 (c 0) = F 10 (c 0) := by rw [hF1, addM_o (by decide)]
        rw [e0, hF2]
        have : f = 0 ∨ f = 1 ∨ f = 2 ∨ f = 3 ∨ f = 4 ∨ f = 5 ∨ f = 6 ∨ f = 7 ∨ f = 8 := by omega
        rcases this with rfl | rfl | rfl | rfl | rfl | rfl | rfl | rfl | rfl
        · simp [upF, b3, l0, vec9]
        · simp [upF, b4, l1, vec9]
        · simp [upF, upd, Ne.symm hne, b5, vec9]
        · simp [upF, b6, l3, vec9]
        · simp [upF, b7, l4, vec9]
        · simp [upF, b8, l5, vec9]
        · simp [upF, upd, vec9]
        · simp [upF, upd, Ne.symm hne, hf10, hz10, vec9]
        · simp [upF, upd, vec9]
  simp only [wp_s, onDec_s, cutB_n, cutB_c, cutS_c, gate_0, gate_i, gate_l, gate_r, gate_n, gate_rf, lk_c, lk_n, selL_n, selL_c, selO_s, selO_n, rm1_n, rm1_c, rm2_n, rm2_c, cat_i, cat_l, cat_r, cat_n, cat_rf, onOpt_s, p1i_s, p2i_s, p1l_s, p2l_s, p1r_s, p1v_s, p1n_n, p1n_r, p1n_rf, onInt_s, onLong_s, onOut_v, onOut_x, isRefV_r, isRefV_n, isRefV_rf, jmp_s, lva_n, lva_i, lva_r, lva_l, popA_0, popA_1, popA_2, popA_3, popA_4, popA_5, popA_6, popA_7, popA_8, rtI_i, rtI_b, rtA_s, onX_s, onX_n, onB_t, onB_f, thr4_s, thr4_w, nzi_2, nzi_3, nzi_5, nzi_8, nzi_10, nzi_11, nzi_22, nzi_100, nzi_1000, nzl_10, nzl_100, nzl_1000, pfV_i, pfV_r, pfV_n, pfV_rf, onObj_s, onI_s, onL_s, onR_s, onLen_i, onLen_l, onLen_r, hup_s, Nat.reduceAdd, Nat.reduceMul, Nat.reduceEqDiff, Nat.reduceLT, Nat.reduceLeDiff, Nat.reduceSub, Nat.succ_ne_self, Nat.zero_add, Nat.zero_le, ↓reduceIte, true_and, and_true, if_false, if_true, eq_self, reduceCtorEq, and_self, true_implies, false_implies, or_true, true_or, or_false, false_or, not_true_eq_false, not_false_eq_true, Int.cast_ofNat_Int, Int.reduceAdd, Int.reduceToNat, Int.reduceLE, Int.reduceSub, Int.reduceNeg, List.map_cons, List.map_nil, List.sum_cons, List.sum_nil, List.cons_append, List.nil_append, Option.toList_some, Option.toList_none, List.getElem?_cons_zero, List.getElem?_cons_succ, List.set_cons_zero, List.set_cons_succ, List.length_cons, List.length_nil, Option.some.injEq, exists_eq_left, exists_eq_right, exists_eq_left', ne_eq, Nat.reduceDiv, Nat.le_refl, Bool.false_eq_true, implies_true, forall_eq, forall_eq', dX7_cutOff_0, sp_aload_n0, dX7_cutOff_1, dX7_cutOff_2, sp_getfield, ft_7_16, dX7_cutOff_5, sp_iload_n1, dX7_cutOff_6, sp_iaload, dX7_cutOff_7, dX7_cutOff_8, ft_7_19, dX7_cutOff_11, dX7_cutOff_12, dX7_cutOff_13, sp_iload_n2, dX7_cutOff_14, dX7_cutOff_15, ft_7_25, dX7_cutOff_18, dX7_cutOff_19, dX7_cutOff_20, dX7_cutOff_21, ft_7_28, dX7_cutOff_24, dX7_cutOff_25, dX7_cutOff_26, dX7_cutOff_27, ft_7_31, dX7_cutOff_30, dX7_cutOff_31, dX7_cutOff_32, sp_invokevirtual, mt_7_97, dX7_cutOff_35, sp_istore_n3, dX7_cutOff_36, dX7_cutOff_37, ft_7_34, dX7_cutOff_40, sp_iload_n3, dX7_cutOff_41, dX7_cutOff_42, dX7_cutOff_45, dX7_cutOff_46, dX7_cutOff_47, sp_iastore, dX7_cutOff_48, dX7_cutOff_49, ft_7_40, dX7_cutOff_52, dX7_cutOff_53, dX7_cutOff_54, dX7_cutOff_57, dX7_cutOff_58, dX7_cutOff_59, dX7_cutOff_60, dX7_cutOff_61, ft_7_22, dX7_cutOff_64, dX7_cutOff_65, sp_dup2, dX7_cutOff_66, dX7_cutOff_67, dX7_cutOff_68, sp_isub, dX7_cutOff_69, dX7_cutOff_70, dX7_cutOff_71, ft_7_37, dX7_cutOff_74, dX7_cutOff_75, dX7_cutOff_76, dX7_cutOff_79, dX7_cutOff_80, dX7_cutOff_81, sp_ifCond_ne, dX7_cutOff_84, sp_iconst_1, dX7_cutOff_85, sp_goto, dX7_cutOff_88, sp_iconst_0, dX7_cutOff_89, dX7_cutOff_90, dX7_cutOff_91, sp_ireturn, p0, p5, p9, p10, p11, hh, Nat.reduceBEq, Nat.reduceLeDiff, e3, e4, cl_nI (show i < 2 ^ 31 by omega), cl_nI (show c 0 < 2 ^ 31 by omega), f5, f9, f11, upd_s]
  exact ⟨fun q => fin 1 (by rw [if_neg (fun p => hd.mp p q)]), fun q => fin 0 (by rw [if_pos (hd.mpr q), hz])⟩
end C65
