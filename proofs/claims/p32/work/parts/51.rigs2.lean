-- CONTRACTS: rigs, wraps
def lmin (x y : Int64) : Int64 := if y < x then y else x
def plS (S : St) (r : Nat) (ld : Int32) : Int32 := plC (fun x => carL (S.i 11 r) (S.1 2 r) x.toInt64 0) ld 21 524288 ld
def beaR (S : St) (r : Nat) (ld : Int32) : Prop := S.i 7 (S.1 1 r) = 0 ∧ ¬ bearS S (S.1 1 r) / 5 < plS S r ld
def shkF : Nat → Int64 → Int64
  | 0, f => f
  | n + 1, f => shkF n (f - f / 10)
def wrpF (gr : Int32) : Nat → Int64 → Int64
  | 0, f => f
  | n + 1, f => wrpF gr n (f * (100 + gr).toInt64 / 100)
section C51
variable {d : DD} {g : HP} {Post : Out → HP → Prop} {B : Bk} {S : St}
set_option maxRecDepth 100000 in
set_option maxHeartbeats 4000000 in
theorem c_minL {x y : Int64} (h : Post (.inl (some (.long (lmin x y)))) g) : Ct d mJ9_min_f86c9 0 0 [.long x, .long y] g Post := by
  refine Ct_w hJ9_min_f86c9 [] 40 rfl ?_
  simp only [wp_s, onDec_s, cutB_n, cutB_c, cutS_c, gate_0, gate_i, gate_l, gate_r, gate_n, gate_rf, lk_c, lk_n, selL_n, selL_c, selO_s, selO_n, rm1_n, rm1_c, rm2_n, rm2_c, cat_i, cat_l, cat_r, cat_n, cat_rf, onOpt_s, p1i_s, p2i_s, p1l_s, p2l_s, p1r_s, p1v_s, p1n_n, p1n_r, p1n_rf, onInt_s, onLong_s, onOut_v, onOut_x, isRefV_r, isRefV_n, isRefV_rf, jmp_s, lva_n, lva_i, lva_r, lva_l, popA_0, popA_1, popA_2, popA_3, popA_4, popA_5, popA_6, popA_7, popA_8, rtI_i, rtI_b, rtA_s, onX_s, onX_n, onB_t, onB_f, thr4_s, thr4_w, nzi_2, nzi_3, nzi_5, nzi_8, nzi_10, nzi_11, nzi_22, nzi_100, nzi_1000, nzl_10, nzl_100, nzl_1000, pfV_i, pfV_r, pfV_n, pfV_rf, onObj_s, onI_s, onL_s, onR_s, onLen_i, onLen_l, onLen_r, hup_s, Nat.reduceAdd, Nat.reduceMul, Nat.reduceEqDiff, Nat.reduceLT, Nat.reduceLeDiff, Nat.reduceSub, Nat.succ_ne_self, Nat.zero_add, Nat.zero_le, ↓reduceIte, true_and, and_true, if_false, if_true, eq_self, reduceCtorEq, and_self, true_implies, false_implies, or_true, true_or, or_false, false_or, not_true_eq_false, not_false_eq_true, Int.cast_ofNat_Int, Int.reduceAdd, Int.reduceToNat, Int.reduceLE, Int.reduceSub, Int.reduceNeg, List.map_cons, List.map_nil, List.sum_cons, List.sum_nil, List.cons_append, List.nil_append, Option.toList_some, Option.toList_none, List.getElem?_cons_zero, List.getElem?_cons_succ, List.set_cons_zero, List.set_cons_succ, List.length_cons, List.length_nil, Option.some.injEq, exists_eq_left, exists_eq_right, exists_eq_left', ne_eq, Nat.reduceDiv, Nat.le_refl, Bool.false_eq_true, implies_true, forall_eq, forall_eq', dJ9_min_f86c9_0, sp_lload_n0, dJ9_min_f86c9_1, sp_lload_n2, dJ9_min_f86c9_2, sp_lcmp, dJ9_min_f86c9_3, sp_ifCond_gt, dJ9_min_f86c9_6, dJ9_min_f86c9_7, sp_goto, dJ9_min_f86c9_10, dJ9_min_f86c9_11, sp_lreturn]
  simp only [lg_cmp_gt]
  unfold lmin at h
  exact ⟨fun q => by rw [if_pos q] at h; exact h, fun q => by rw [if_neg q] at h; exact h⟩
set_option maxRecDepth 100000 in
set_option maxHeartbeats 4000000 in
theorem c_X6_keepRig {q li pn : Nat} {fr : Int32} (hW : CW B S g) (hn : S.nr < 12) (hli : li < S.nl) (hq : g q = some (hO 5 [.ref (B 1 li), .int (nI pn), .int fr])) (hqo : ¬ own B S q)
    (h : ∀ g2, CW (bkS B 2 S.nr q) (newR S li pn fr) g2 → (∀ a, a ≠ q → ¬ own B S a → g2 a = g a) → Post (.inl (some (.int (nI S.nr)))) g2) : Ct d mX6_keepRig 0 0 [.ref (B 5 0), .ref q] g Post := by
  obtain ⟨ho, -, -, ⟨⟨f, hf, hrr⟩, -⟩, -, -, -, hinj, hz⟩ := id hW
  unfold CWo objL at ho
  refine Ct_w hX6_keepRig [] 60 rfl ?_
  have e : nI S.nr < nI 12 := by rw [nI_ltI (by omega) (by omega)]; exact hn
  have e0 : ¬ nI S.nr < 0 := nI_pos (by omega)
  have e3 : vp_in (nI S.nr) 12 := vp_in_nI hn (by decide)
  have ho2 : ∀ o, hup g (B 5 3) o (B 5 0) = g (B 5 0) := fun o => hup_ow hinj (v5 (by decide)) (v5 (by decide)) (by omega)
  simp only [wp_s, onDec_s, cutB_n, cutB_c, cutS_c, gate_0, gate_i, gate_l, gate_r, gate_n, gate_rf, lk_c, lk_n, selL_n, selL_c, selO_s, selO_n, rm1_n, rm1_c, rm2_n, rm2_c, cat_i, cat_l, cat_r, cat_n, cat_rf, onOpt_s, p1i_s, p2i_s, p1l_s, p2l_s, p1r_s, p1v_s, p1n_n, p1n_r, p1n_rf, onInt_s, onLong_s, onOut_v, onOut_x, isRefV_r, isRefV_n, isRefV_rf, jmp_s, lva_n, lva_i, lva_r, lva_l, popA_0, popA_1, popA_2, popA_3, popA_4, popA_5, popA_6, popA_7, popA_8, rtI_i, rtI_b, rtA_s, onX_s, onX_n, onB_t, onB_f, thr4_s, thr4_w, nzi_2, nzi_3, nzi_5, nzi_8, nzi_10, nzi_11, nzi_22, nzi_100, nzi_1000, nzl_10, nzl_100, nzl_1000, pfV_i, pfV_r, pfV_n, pfV_rf, onObj_s, onI_s, onL_s, onR_s, onLen_i, onLen_l, onLen_r, hup_s, Nat.reduceAdd, Nat.reduceMul, Nat.reduceEqDiff, Nat.reduceLT, Nat.reduceLeDiff, Nat.reduceSub, Nat.succ_ne_self, Nat.zero_add, Nat.zero_le, ↓reduceIte, true_and, and_true, if_false, if_true, eq_self, reduceCtorEq, and_self, true_implies, false_implies, or_true, true_or, or_false, false_or, not_true_eq_false, not_false_eq_true, Int.cast_ofNat_Int, Int.reduceAdd, Int.reduceToNat, Int.reduceLE, Int.reduceSub, Int.reduceNeg, List.map_cons, List.map_nil, List.sum_cons, List.sum_nil, List.cons_append, List.nil_append, Option.toList_some, Option.toList_none, List.getElem?_cons_zero, List.getElem?_cons_succ, List.set_cons_zero, List.set_cons_succ, List.length_cons, List.length_nil, Option.some.injEq, exists_eq_left, exists_eq_right, exists_eq_left', ne_eq, Nat.reduceDiv, Nat.le_refl, Bool.false_eq_true, implies_true, forall_eq, forall_eq', dX6_keepRig_0, sp_aload_n0, dX6_keepRig_1, sp_getfield, ft_6_146, dX6_keepRig_4, sp_istore_n2, dX6_keepRig_5, sp_iload_n2, dX6_keepRig_6, sp_ifCond_lt, dX6_keepRig_9, dX6_keepRig_10, dX6_keepRig_11, ft_6_23, dX6_keepRig_14, sp_arraylength, dX6_keepRig_15, sp_if_icmp_ge, dX6_keepRig_18, dX6_keepRig_19, dX6_keepRig_22, dX6_keepRig_23, sp_aload_n1, dX6_keepRig_24, sp_aastore, dX6_keepRig_25, dX6_keepRig_26, dX6_keepRig_27, sp_iconst_1, dX6_keepRig_28, sp_iadd, dX6_keepRig_29, sp_putfield, dX6_keepRig_32, dX6_keepRig_33, sp_ireturn, ho, hf, alen_nI, e, e0, e3, cl_nI (show S.nr < 2 ^ 31 by omega), hq, ho2]
  have h9 := h _ (hW.addRig hn hli hq hqo hf) (fun a _ ha => by
    rw [hup_n (fun e => ha (by rw [e]; exact own_v (v5 (by decide)))), hup_n (fun e => ha (by rw [e]; exact own_v (v5 (by decide))))])
  have e9 : objL B (newR S li pn fr) = [.ref (B 5 1), .ref (B 5 2), .int (nI S.nl), .ref (B 5 3), .int (nI S.nr + 1), .ref (B 5 5), .ref (B 5 4), .int (nI S.nn), .ref (B 5 10)] := by
    unfold objL
    rw [show (newR S li pn fr).nr = S.nr + 1 from by simp [newR, St.nr], show (newR S li pn fr).nl = S.nl from by simp [newR, St.nl], show (newR S li pn fr).nn = S.nn from by simp [newR, St.nn], nI_succ]
  rw [e9] at h9
  exact h9
theorem rng_nat {x : Int32} {b : Nat} (hb : b + 1 < 2 ^ 31) (h0 : ¬ x < 0) (h1 : ¬ nI b < x) : ∃ n, n ≤ b ∧ x = nI n ∧ ixN x = n := by
  rcases ixc (x := x) (n := b + 1) hb with ⟨e, -⟩ | ⟨-, e, -⟩ | ⟨j, hj, rfl⟩
  · exact absurd e h0
  · exfalso
    apply h1
    rw [Int32.lt_iff_toInt_lt] at e ⊢
    have e1 : (nI b).toInt = b := nI_toInt (by omega)
    have e2 : (nI (b + 1)).toInt = ((b + 1 : Nat) : Int) := nI_toInt hb
    omega
  · exact ⟨j, by omega, rfl, nI_clamp (by omega)⟩
end C51
