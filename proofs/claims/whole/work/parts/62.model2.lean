-- THE MODEL AND THE ABSTRACT STATE
def cntM (c : Nat → Nat) (S : St) : Prop := c 0 = S.1 0 0 ∧ c 1 = S.1 0 1 ∧ c 2 = S.1 0 3 ∧ c 3 = S.1 0 4 ∧ c 4 = S.1 0 2
def RMf (S : St) (F : Nat → Nat → Int32) : Prop := ∀ j, j < 4 → F 1 j = S.2.1 9 j ∧ F 2 j = S.2.1 10 j
def RMl (S : St) (F : Nat → Nat → Int32) : Prop := (∀ f j, f < 9 → j < S.1 0 0 → F (f + 3) j = S.2.1 f j) ∧ ∀ j, S.1 0 0 ≤ j → j < 60 → F 9 j = 0 ∧ F 10 j = 0
def RMr (S : St) (F : Nat → Nat → Int32) : Prop := ∀ j, j < S.1 0 1 → F 12 j = nI (S.1 1 j) ∧ F 13 j = nI (S.1 2 j) ∧ F 14 j = S.2.1 11 j
def RMb (S : St) (F : Nat → Nat → Int32) : Prop := (∀ j, j < 8 → F 15 j = nI (S.1 4 j)) ∧ ∀ j, j < 64 → F 16 j = S.2.1 12 j
def tnM (S : St) (k : Nat) : Bool := decide (k / 220 < S.1 0 2) && (decide ((k % 220 / 22 + k % 22 / 2) % 2 = 0) && (if k % 2 = 1 then decide (k % 22 / 2 < 10) && S.2.2.1 (k / 220) (10 * (k % 220 / 22) + k % 22 / 2) else decide (1 ≤ k % 22 / 2) && S.2.2.1 (k / 220) (10 * (k % 220 / 22) + k % 22 / 2 - 1)))
def RMn (S : St) (F : Nat → Nat → Int32) : Prop := (∀ j, j < S.1 0 2 → F 17 j = nI (S.1 5 j) ∧ F 18 j = nI (S.1 6 j)) ∧ ∀ j, j < 1100 → F 19 j = bI (tnM S j)
def RMw (S : St) (c : Nat → Nat) (F : Nat → Nat → Int32) : Prop := cntM c S ∧ RMf S F ∧ RMl S F ∧ RMr S F ∧ RMb S F ∧ RMn S F
def MW (M : Nat → Nat) (S : St) (r : Int32) (g : HP) : Prop := ∃ c F, MV M r c F g ∧ RMw S c F
theorem RMf.tr {S S2 : St} {F F2 : Nat → Nat → Int32} (hs : S2.2.1 9 = S.2.1 9 ∧ S2.2.1 10 = S.2.1 10) (hF : F2 1 = F 1 ∧ F2 2 = F 2) (h : RMf S F) : RMf S2 F2 := by
  unfold RMf at h ⊢; rw [hs.1, hs.2, hF.1, hF.2]; exact h
theorem RMl.tr {S S2 : St} {F F2 : Nat → Nat → Int32} (h0 : S2.1 0 0 = S.1 0 0) (hs : ∀ f, f < 9 → S2.2.1 f = S.2.1 f) (hF : ∀ k, 3 ≤ k → k < 12 → F2 k = F k) (h : RMl S F) : RMl S2 F2 :=
  ⟨fun f j hf hj => by rw [hF _ (by omega) (by omega), hs f hf]; exact h.1 f j hf (by rw [← h0]; exact hj), fun j hj hj2 => by rw [hF 9 (by decide) (by decide), hF 10 (by decide) (by decide)]; exact h.2 j (by rw [← h0]; exact hj) hj2⟩
theorem RMr.tr {S S2 : St} {F F2 : Nat → Nat → Int32} (h0 : S2.1 0 1 = S.1 0 1) (hs : S2.1 1 = S.1 1 ∧ S2.1 2 = S.1 2 ∧ S2.2.1 11 = S.2.1 11) (hF : F2 12 = F 12 ∧ F2 13 = F 13 ∧ F2 14 = F 14) (h : RMr S F) : RMr S2 F2 := by
  unfold RMr at h ⊢; rw [h0, hs.1, hs.2.1, hs.2.2, hF.1, hF.2.1, hF.2.2]; exact h
theorem RMb.tr {S S2 : St} {F F2 : Nat → Nat → Int32} (hs : S2.1 4 = S.1 4 ∧ S2.2.1 12 = S.2.1 12) (hF : F2 15 = F 15 ∧ F2 16 = F 16) (h : RMb S F) : RMb S2 F2 := by
  unfold RMb at h ⊢; rw [hs.1, hs.2, hF.1, hF.2]; exact h
theorem RMn.tr {S S2 : St} {F F2 : Nat → Nat → Int32} (h0 : S2.1 0 2 = S.1 0 2) (hs : S2.1 5 = S.1 5 ∧ S2.1 6 = S.1 6 ∧ S2.2.2.1 = S.2.2.1) (hF : F2 17 = F 17 ∧ F2 18 = F 18 ∧ F2 19 = F 19) (h : RMn S F) : RMn S2 F2 := by
  unfold RMn tnM at h ⊢; rw [h0, hs.1, hs.2.1, hs.2.2, hF.1, hF.2.1, hF.2.2]; exact h
theorem RMl.new {S : St} {F F2 : Nat → Nat → Int32} {v : Nat → Int32} {r : Nat → Option Nat} (h : RMl S F) (hF : ∀ k j, 3 ≤ k → k < 12 → j ≠ S.1 0 0 → F2 k j = F k j) (hv : ∀ f, f < 9 → F2 (f + 3) (S.1 0 0) = v f) : RMl (newL S v r) F2 := by
  have hn : (newL S v r).1 0 0 = S.1 0 0 + 1 := by simp [newL]
  refine ⟨fun f j hf hj => ?_, fun j hj hj2 => ?_⟩
  · rw [hn] at hj
    show F2 (f + 3) j = if j = S.1 0 0 ∧ f < 9 then v f else S.2.1 f j
    by_cases e : j = S.1 0 0
    · rw [if_pos ⟨e, hf⟩, e]
      exact hv f hf
    · rw [if_neg (fun q => e q.1), hF _ j (by omega) (by omega) e]
      exact h.1 f j hf (by omega)
  · rw [hn] at hj
    rw [hF 9 j (by decide) (by decide) (by omega), hF 10 j (by decide) (by decide) (by omega)]
    exact h.2 j (by omega) hj2
theorem RMl.upd {S S2 : St} {F F2 : Nat → Nat → Int32} {i : Nat} (h : RMl S F) (hi : i < S.1 0 0) (h0 : S2.1 0 0 = S.1 0 0) (hs : ∀ f j, f < 9 → j ≠ i → S2.2.1 f j = S.2.1 f j) (hF : ∀ k j, 3 ≤ k → k < 12 → j ≠ i → F2 k j = F k j) (hv : ∀ f, f < 9 → F2 (f + 3) i = S2.2.1 f i) : RMl S2 F2 := by
  refine ⟨fun f j hf hj => ?_, fun j hj hj2 => ?_⟩
  · rw [h0] at hj
    by_cases e : j = i
    · rw [e]; exact hv f hf
    · rw [hs f j hf e, hF _ j (by omega) (by omega) e]
      exact h.1 f j hf hj
  · rw [h0] at hj
    rw [hF 9 j (by decide) (by decide) (by omega), hF 10 j (by decide) (by decide) (by omega)]
    exact h.2 j hj hj2
theorem upF_o {F : Nat → Nat → Int32} {k k2 : Nat} {f : Nat → Int32} (h : k2 ≠ k) : upF F k f k2 = F k2 := by unfold upF; rw [if_neg h]
theorem upF_s {F : Nat → Nat → Int32} {k : Nat} {f : Nat → Int32} : upF F k f k = f := by unfold upF; rw [if_pos rfl]
def addM (F : Nat → Nat → Int32) (n : Nat) (a3 a4 a5 a6 a7 a8 : Int32) : Nat → Nat → Int32 := upF (upF (upF (upF (upF (upF F 3 (upd (F 3) n a3)) 4 (upd (F 4) n a4)) 5 (upd (F 5) n a5)) 6 (upd (F 6) n a6)) 7 (upd (F 7) n a7)) 8 (upd (F 8) n a8)
theorem addM_n {F : Nat → Nat → Int32} {n j k : Nat} {a3 a4 a5 a6 a7 a8 : Int32} (h : j ≠ n) : addM F n a3 a4 a5 a6 a7 a8 k j = F k j := by
  unfold addM upF
  split
  · next e => rw [e, upd_n h]
  · split
    · next e => rw [e, upd_n h]
    · split
      · next e => rw [e, upd_n h]
      · split
        · next e => rw [e, upd_n h]
        · split
          · next e => rw [e, upd_n h]
          · split
            · next e => rw [e, upd_n h]
            · rfl
theorem addM_o {F : Nat → Nat → Int32} {n k : Nat} {a3 a4 a5 a6 a7 a8 : Int32} (h : k < 3 ∨ 8 < k) : addM F n a3 a4 a5 a6 a7 a8 k = F k := by
  unfold addM
  rw [upF_o (by omega), upF_o (by omega), upF_o (by omega), upF_o (by omega), upF_o (by omega), upF_o (by omega)]
theorem addM_s {F : Nat → Nat → Int32} {n : Nat} {a3 a4 a5 a6 a7 a8 : Int32} : addM F n a3 a4 a5 a6 a7 a8 3 n = a3 ∧ addM F n a3 a4 a5 a6 a7 a8 4 n = a4 ∧ addM F n a3 a4 a5 a6 a7 a8 5 n = a5 ∧ addM F n a3 a4 a5 a6 a7 a8 6 n = a6 ∧ addM F n a3 a4 a5 a6 a7 a8 7 n = a7 ∧ addM F n a3 a4 a5 a6 a7 a8 8 n = a8 := by
  unfold addM
  refine ⟨?_, ?_, ?_, ?_, ?_, ?_⟩ <;> simp [upF, upd]
section C62
variable {d : DD} {g : HP} {Post : Out → HP → Prop} {M : Nat → Nat} {r : Int32} {c : Nat → Nat} {F : Nat → Nat → Int32} {S : St}
set_option maxRecDepth 100000 in
set_option maxHeartbeats 4000000 in
theorem c_X7_add {a3 a4 a5 a6 a7 a8 : Int32} (hM : MV M r c F g) (hc : c 0 < 60) (h : ∀ g2, MV M r (upC c 0 (c 0 + 1)) (addM F (c 0) a3 a4 a5 a6 a7 a8) g2 → frM M g g2 → Post (.inl (some (.int (nI (c 0))))) g2) : Ct d mX7_add 0 0 [.ref (M 0), .int a3, .int a4, .int a5, .int a6, .int a7, .int a8] g Post := by
  obtain ⟨m0, -, -, m3, m4, m5, m6, m7, m8, -⟩ := hM.ar
  have hi := hM.2.2
  refine Ct_w hX7_add [] 80 rfl ?_
  have hh : ∀ {g : HP} {i j : Nat} {o : HObj}, (i == j) = false → i ≤ 20 → j ≤ 20 → hup g (M i) o (M j) = g (M j) := fun a b c => hupM hi a b c
  have h9 := h _ (((((((hM.wr 3 (by decide) (by decide) (upd (F 3) (c 0) a3)).wr 4 (by decide) (by decide) (upd (F 4) (c 0) a4)).wr 5 (by decide) (by decide) (upd (F 5) (c 0) a5)).wr 6 (by decide) (by decide) (upd (F 6) (c 0) a6)).wr 7 (by decide) (by decide) (upd (F 7) (c 0) a7)).wr 8 (by decide) (by decide) (upd (F 8) (c 0) a8)).ob r (upC c 0 (c 0 + 1))) (((((((frM.rf.up (by decide)).up (by decide)).up (by decide)).up (by decide)).up (by decide)).up (by decide)).up (by decide))
  have e9 : mob M r (upC c 0 (c 0 + 1)) = [.int r, .ref (M 1), .ref (M 2), .int (nI (c 0) + 1), .ref (M 3), .ref (M 4), .ref (M 5), .ref (M 6), .ref (M 7), .ref (M 8), .ref (M 9), .ref (M 10), .ref (M 11), .int (nI (c 1)), .ref (M 12), .ref (M 13), .ref (M 14), .int (nI (c 2)), .int (nI (c 3)), .ref (M 15), .ref (M 16), .int (nI (c 4)), .ref (M 17), .ref (M 18), .ref (M 19), .ref (M 20)] := by
    unfold mob upC
    simp only [reduceIte, Nat.succ_ne_self]
    rw [nI_succ]
    rfl
  rw [e9] at h9
  simp only [wp_s, onDec_s, cutB_n, cutB_c, cutS_c, gate_0, gate_i, gate_l, gate_r, gate_n, gate_rf, lk_c, lk_n, selL_n, selL_c, selO_s, selO_n, rm1_n, rm1_c, rm2_n, rm2_c, cat_i, cat_l, cat_r, cat_n, cat_rf, onOpt_s, p1i_s, p2i_s, p1l_s, p2l_s, p1r_s, p1v_s, p1n_n, p1n_r, p1n_rf, onInt_s, onLong_s, onOut_v, onOut_x, isRefV_r, isRefV_n, isRefV_rf, jmp_s, lva_n, lva_i, lva_r, lva_l, popA_0, popA_1, popA_2, popA_3, popA_4, popA_5, popA_6, popA_7, popA_8, rtI_i, rtI_b, rtA_s, onX_s, onX_n, onB_t, onB_f, thr4_s, thr4_w, nzi_2, nzi_3, nzi_5, nzi_8, nzi_10, nzi_11, nzi_22, nzi_100, nzi_1000, nzl_10, nzl_100, nzl_1000, pfV_i, pfV_r, pfV_n, pfV_rf, onObj_s, onI_s, onL_s, onR_s, onLen_i, onLen_l, onLen_r, hup_s, Nat.reduceAdd, Nat.reduceMul, Nat.reduceEqDiff, Nat.reduceLT, Nat.reduceLeDiff, Nat.reduceSub, Nat.succ_ne_self, Nat.zero_add, Nat.zero_le, ↓reduceIte, true_and, and_true, if_false, if_true, eq_self, reduceCtorEq, and_self, true_implies, false_implies, or_true, true_or, or_false, false_or, not_true_eq_false, not_false_eq_true, Int.cast_ofNat_Int, Int.reduceAdd, Int.reduceToNat, Int.reduceLE, Int.reduceSub, Int.reduceNeg, List.map_cons, List.map_nil, List.sum_cons, List.sum_nil, List.cons_append, List.nil_append, Option.toList_some, Option.toList_none, List.getElem?_cons_zero, List.getElem?_cons_succ, List.set_cons_zero, List.set_cons_succ, List.length_cons, List.length_nil, Option.some.injEq, exists_eq_left, exists_eq_right, exists_eq_left', ne_eq, Nat.reduceDiv, Nat.le_refl, Bool.false_eq_true, implies_true, forall_eq, forall_eq', dX7_add_0, sp_aload_n0, dX7_add_1, sp_getfield, ft_7_16, dX7_add_4, dX7_add_5, ft_7_82, dX7_add_8, sp_iload_n1, dX7_add_9, sp_iastore, dX7_add_10, dX7_add_11, ft_7_19, dX7_add_14, dX7_add_15, dX7_add_18, sp_iload_n2, dX7_add_19, dX7_add_20, dX7_add_21, ft_7_22, dX7_add_24, dX7_add_25, dX7_add_28, sp_iload_n3, dX7_add_29, dX7_add_30, dX7_add_31, ft_7_25, dX7_add_34, dX7_add_35, dX7_add_38, sp_iload, dX7_add_40, dX7_add_41, dX7_add_42, ft_7_28, dX7_add_45, dX7_add_46, dX7_add_49, dX7_add_51, dX7_add_52, dX7_add_53, ft_7_31, dX7_add_56, dX7_add_57, dX7_add_60, dX7_add_62, dX7_add_63, dX7_add_64, sp_dup, dX7_add_65, dX7_add_68, sp_iconst_1, dX7_add_69, sp_iadd, dX7_add_70, sp_putfield, dX7_add_73, dX7_add_74, dX7_add_77, dX7_add_78, sp_isub, dX7_add_79, sp_ireturn, m0, m3, m4, m5, m6, m7, m8, hh, Nat.reduceBEq, Nat.reduceLeDiff, vp_in_nI (n := c 0) hc (by decide), cl_nI (show c 0 < 2 ^ 31 by omega), Int32.add_sub_cancel]
  exact h9
end C62
