-- CONTRACTS: the braid
section C33
variable {d : DD} {g : HP} {Post : Out → HP → Prop}
theorem upd_s {f : Nat → Int32} {k : Nat} {x : Int32} : upd f k x k = x := by simp [upd]
theorem upd_n {f : Nat → Int32} {k j : Nat} {x : Int32} (h : j ≠ k) : upd f k x j = f j := by simp [upd, h]
theorem cl_nI {n : Nat} (h : n < 2 ^ 31) : (nI n).toNatClampNeg = n := nI_clamp h
theorem alen_nI {n : Nat} : Int32.ofNat n = nI n := rfl
-- fills
set_option maxRecDepth 100000 in
set_option maxHeartbeats 4000000 in
theorem c_fill {a n : Nat} {f : Nat → Int32} {x : Int32} (hn : n < 2 ^ 31) (ha : g a = some (hI 0 n f)) (h : ∀ f2, (∀ j, j < n → f2 j = x) → Post (.inl none) (hup g a (hI 0 n f2))) : Ct d mJ7_fill_53178 0 0 [.ref a, .int x] g Post := by
  have loop : ∀ (j i : Nat) (f2 : Nat → Int32) (g2 : HP), i + j = n → g2 a = some (hI 0 n f2) → (∀ o, hup g2 a o = hup g a o) → (∀ q, q < i → f2 q = x) → J d mJ7_fill_53178 (rmOf 0 0) (jZ d 0 Post) 5 [(0, .ref a), (1, .int x), (2, .int (nI i)), (3, .int (nI n))] [] g2 0 := by
    intro j
    induction j with
    | zero =>
      intro i f2 g2 hi hg hup2 hf
      refine J_w hJ7_fill_53178 [(5, [0, 1, 2, 3])] 40 ?_
      simp only [wp_s, onDec_s, cutB_n, cutB_c, cutS_c, gate_0, gate_i, gate_l, gate_r, gate_n, gate_rf, lk_c, lk_n, selL_n, selL_c, selO_s, selO_n, rm1_n, rm1_c, rm2_n, rm2_c, cat_i, cat_l, cat_r, cat_n, cat_rf, onOpt_s, p1i_s, p2i_s, p1l_s, p2l_s, p1r_s, p1v_s, p1n_n, p1n_r, p1n_rf, onInt_s, onLong_s, onOut_v, onOut_x, isRefV_r, isRefV_n, isRefV_rf, jmp_s, lva_n, lva_i, lva_r, lva_l, popA_0, popA_1, popA_2, popA_3, popA_4, popA_5, popA_6, popA_7, popA_8, rtI_i, rtI_b, rtA_s, onX_s, onX_n, onB_t, onB_f, thr4_s, thr4_w, nzi_2, nzi_3, nzi_5, nzi_8, nzi_10, nzi_11, nzi_22, nzi_100, nzi_1000, nzl_10, nzl_100, nzl_1000, pfV_i, pfV_r, pfV_n, pfV_rf, onObj_s, onI_s, onL_s, onR_s, onLen_i, onLen_l, onLen_r, hup_s, Nat.reduceAdd, Nat.reduceMul, Nat.reduceEqDiff, Nat.reduceLT, Nat.reduceLeDiff, Nat.reduceSub, Nat.succ_ne_self, Nat.zero_add, Nat.zero_le, ↓reduceIte, true_and, and_true, if_false, if_true, eq_self, reduceCtorEq, and_self, true_implies, false_implies, or_true, true_or, or_false, false_or, not_true_eq_false, not_false_eq_true, Int.cast_ofNat_Int, Int.reduceAdd, Int.reduceToNat, Int.reduceLE, Int.reduceSub, Int.reduceNeg, List.map_cons, List.map_nil, List.sum_cons, List.sum_nil, List.cons_append, List.nil_append, Option.toList_some, Option.toList_none, List.getElem?_cons_zero, List.getElem?_cons_succ, List.set_cons_zero, List.set_cons_succ, List.length_cons, List.length_nil, Option.some.injEq, exists_eq_left, exists_eq_right, exists_eq_left', ne_eq, Nat.reduceDiv, Nat.le_refl, Bool.false_eq_true, implies_true, forall_eq, forall_eq', dJ7_fill_53178_0, sp_iconst_0, dJ7_fill_53178_1, sp_istore_n2, dJ7_fill_53178_2, sp_aload_n0, dJ7_fill_53178_3, sp_arraylength, dJ7_fill_53178_4, sp_istore_n3, dJ7_fill_53178_5, sp_iload_n2, dJ7_fill_53178_6, sp_iload_n3, dJ7_fill_53178_7, sp_if_icmp_ge, dJ7_fill_53178_10, dJ7_fill_53178_11, dJ7_fill_53178_12, sp_iload_n1, dJ7_fill_53178_13, sp_iastore, dJ7_fill_53178_14, sp_iinc_1, dJ7_fill_53178_17, sp_goto, dJ7_fill_53178_20, sp_return_, hg]
      have : ¬ nI i < nI n := by rw [nI_ltI (by omega) hn]; omega
      refine ⟨fun q => absurd q this, fun _ => ?_⟩
      have hin : i = n := by omega
      subst hin
      have := h f2 hf
      rw [← hup2] at this
      have e : hup g2 a (hI 0 i f2) = g2 := by
        funext q
        unfold hup
        split
        · next e => rw [e, hg]
        · rfl
      rw [e] at this
      exact this
    | succ j ih =>
      intro i f2 g2 hi hg hup2 hf
      refine J_w hJ7_fill_53178 [(5, [0, 1, 2, 3])] 40 ?_
      have hlt : nI i < nI n := by rw [nI_ltI (by omega) hn]; omega
      have hin : vp_in (nI i) n := vp_in_nI (by omega) hn
      simp only [wp_s, onDec_s, cutB_n, cutB_c, cutS_c, gate_0, gate_i, gate_l, gate_r, gate_n, gate_rf, lk_c, lk_n, selL_n, selL_c, selO_s, selO_n, rm1_n, rm1_c, rm2_n, rm2_c, cat_i, cat_l, cat_r, cat_n, cat_rf, onOpt_s, p1i_s, p2i_s, p1l_s, p2l_s, p1r_s, p1v_s, p1n_n, p1n_r, p1n_rf, onInt_s, onLong_s, onOut_v, onOut_x, isRefV_r, isRefV_n, isRefV_rf, jmp_s, lva_n, lva_i, lva_r, lva_l, popA_0, popA_1, popA_2, popA_3, popA_4, popA_5, popA_6, popA_7, popA_8, rtI_i, rtI_b, rtA_s, onX_s, onX_n, onB_t, onB_f, thr4_s, thr4_w, nzi_2, nzi_3, nzi_5, nzi_8, nzi_10, nzi_11, nzi_22, nzi_100, nzi_1000, nzl_10, nzl_100, nzl_1000, pfV_i, pfV_r, pfV_n, pfV_rf, onObj_s, onI_s, onL_s, onR_s, onLen_i, onLen_l, onLen_r, hup_s, Nat.reduceAdd, Nat.reduceMul, Nat.reduceEqDiff, Nat.reduceLT, Nat.reduceLeDiff, Nat.reduceSub, Nat.succ_ne_self, Nat.zero_add, Nat.zero_le, ↓reduceIte, true_and, and_true, if_false, if_true, eq_self, reduceCtorEq, and_self, true_implies, false_implies, or_true, true_or, or_false, false_or, not_true_eq_false, not_false_eq_true, Int.cast_ofNat_Int, Int.reduceAdd, Int.reduceToNat, Int.reduceLE, Int.reduceSub, Int.reduceNeg, List.map_cons, List.map_nil, List.sum_cons, List.sum_nil, List.cons_append, List.nil_append, Option.toList_some, Option.toList_none, List.getElem?_cons_zero, List.getElem?_cons_succ, List.set_cons_zero, List.set_cons_succ, List.length_cons, List.length_nil, Option.some.injEq, exists_eq_left, exists_eq_right, exists_eq_left', ne_eq, Nat.reduceDiv, Nat.le_refl, Bool.false_eq_true, implies_true, forall_eq, forall_eq', dJ7_fill_53178_0, sp_iconst_0, dJ7_fill_53178_1, sp_istore_n2, dJ7_fill_53178_2, sp_aload_n0, dJ7_fill_53178_3, sp_arraylength, dJ7_fill_53178_4, sp_istore_n3, dJ7_fill_53178_5, sp_iload_n2, dJ7_fill_53178_6, sp_iload_n3, dJ7_fill_53178_7, sp_if_icmp_ge, dJ7_fill_53178_10, dJ7_fill_53178_11, dJ7_fill_53178_12, sp_iload_n1, dJ7_fill_53178_13, sp_iastore, dJ7_fill_53178_14, sp_iinc_1, dJ7_fill_53178_17, sp_goto, dJ7_fill_53178_20, sp_return_, hg, hin, cl_nI (show i < 2 ^ 31 by omega)]
      refine ⟨fun _ => ?_, fun q => absurd hlt q⟩
      have := ih (i + 1) (upd f2 i x) (hup g2 a (hI 0 n (upd f2 i x))) (by omega) hup_s (fun o => by rw [hup_hup]; exact hup2 o) (fun q hq => by
        by_cases e : q = i
        · rw [e]; exact upd_s
        · rw [upd_n e]; exact hf q (by omega))
      rw [nI_succ] at this
      exact this
  refine Ct_w hJ7_fill_53178 [(5, [0, 1, 2, 3])] 40 rfl ?_
  simp only [wp_s, onDec_s, cutB_n, cutB_c, cutS_c, gate_0, gate_i, gate_l, gate_r, gate_n, gate_rf, lk_c, lk_n, selL_n, selL_c, selO_s, selO_n, rm1_n, rm1_c, rm2_n, rm2_c, cat_i, cat_l, cat_r, cat_n, cat_rf, onOpt_s, p1i_s, p2i_s, p1l_s, p2l_s, p1r_s, p1v_s, p1n_n, p1n_r, p1n_rf, onInt_s, onLong_s, onOut_v, onOut_x, isRefV_r, isRefV_n, isRefV_rf, jmp_s, lva_n, lva_i, lva_r, lva_l, popA_0, popA_1, popA_2, popA_3, popA_4, popA_5, popA_6, popA_7, popA_8, rtI_i, rtI_b, rtA_s, onX_s, onX_n, onB_t, onB_f, thr4_s, thr4_w, nzi_2, nzi_3, nzi_5, nzi_8, nzi_10, nzi_11, nzi_22, nzi_100, nzi_1000, nzl_10, nzl_100, nzl_1000, pfV_i, pfV_r, pfV_n, pfV_rf, onObj_s, onI_s, onL_s, onR_s, onLen_i, onLen_l, onLen_r, hup_s, Nat.reduceAdd, Nat.reduceMul, Nat.reduceEqDiff, Nat.reduceLT, Nat.reduceLeDiff, Nat.reduceSub, Nat.succ_ne_self, Nat.zero_add, Nat.zero_le, ↓reduceIte, true_and, and_true, if_false, if_true, eq_self, reduceCtorEq, and_self, true_implies, false_implies, or_true, true_or, or_false, false_or, not_true_eq_false, not_false_eq_true, Int.cast_ofNat_Int, Int.reduceAdd, Int.reduceToNat, Int.reduceLE, Int.reduceSub, Int.reduceNeg, List.map_cons, List.map_nil, List.sum_cons, List.sum_nil, List.cons_append, List.nil_append, Option.toList_some, Option.toList_none, List.getElem?_cons_zero, List.getElem?_cons_succ, List.set_cons_zero, List.set_cons_succ, List.length_cons, List.length_nil, Option.some.injEq, exists_eq_left, exists_eq_right, exists_eq_left', ne_eq, Nat.reduceDiv, Nat.le_refl, Bool.false_eq_true, implies_true, forall_eq, forall_eq', dJ7_fill_53178_0, sp_iconst_0, dJ7_fill_53178_1, sp_istore_n2, dJ7_fill_53178_2, sp_aload_n0, dJ7_fill_53178_3, sp_arraylength, dJ7_fill_53178_4, sp_istore_n3, dJ7_fill_53178_5, sp_iload_n2, dJ7_fill_53178_6, sp_iload_n3, dJ7_fill_53178_7, sp_if_icmp_ge, dJ7_fill_53178_10, dJ7_fill_53178_11, dJ7_fill_53178_12, sp_iload_n1, dJ7_fill_53178_13, sp_iastore, dJ7_fill_53178_14, sp_iinc_1, dJ7_fill_53178_17, sp_goto, dJ7_fill_53178_20, sp_return_, ha, alen_nI]
  exact loop n 0 f g (by omega) ha (fun _ => rfl) (fun q hq => absurd hq (by omega))
end C33
