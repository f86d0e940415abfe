/-! PURE: move, on both sides. -/
def w_mov (σ : SS) (c i n : Nat) : SS := w_row σ (fun k => if k / 4 = c then (if k % 4 < n then z_row σ (4 * c + i + k % 4) else 0) else z_row σ k)
def msh (M : XM) (f i n : Nat) : Nat → XM
  | 0 => cD (cL M 2200 0 2200 0 (f + i) f n) 2300 0 2300 0 (f + i) f n
  | j + 1 => sD (sL (msh M f i n j) 2200 0 (f + (n + j)) 0) 2300 0 (f + (n + j)) FP.dconst0
theorem msh_sm (M : XM) (f i n : Nat) (P : Nat → Bool) (h1 : P 2200 = false) (h2 : P 2300 = false) : ∀ j, Sm P M (msh M f i n j) := by
  intro j
  induction j with
  | zero => exact sm_cD h2 (sm_cL h1 (sm_refl _ _))
  | succ j ih => exact sm_sD h2 (sm_sL h1 ih)
theorem msh_V (M : XM) (f i n : Nat) : ∀ j a b, gV (msh M f i n j) a b = gV M a b := by
  intro j a b
  induction j with
  | zero => rfl
  | succ j ih => exact ih
theorem msh_L (M : XM) (f i n : Nat) : ∀ j q k, gL (msh M f i n j) 2200 q k = if q = 0 then (if f + n ≤ k ∧ k < f + n + j then 0 else if f ≤ k ∧ k < f + n then gL M 2200 0 (f + i + (k - f)) else gL M 2200 0 k) else gL M 2200 q k := by
  intro j q k
  induction j with
  | zero =>
    simp only [msh, gI_sI, gI_sL, gI_sD, gI_sR, gI_nO, gI_cL, gI_cD, gL_sI, gL_sL, gL_sD, gL_sR, gL_nO, gL_cL, gL_cD, gD_sI, gD_sL, gD_sD, gD_sR, gD_nO, gD_cL, gD_cD, gR_sI, gR_sL, gR_sD, gR_sR, gR_nO, gR_cL, gR_cD, gV_sI, gV_sL, gV_sD, gV_sR, gV_nO, gV_cL, gV_cD, gV_nO_mono, reduceCtorEq, Nat.reduceDiv, Nat.reduceMul, Nat.reduceMod, Nat.reduceLT, Nat.reduceEqDiff, Int32.reduceLT, Int32.reduceLE, Int32.reduceSub, Int32.reduceAdd, false_and, and_false, true_and, and_true, and_self, not_true_eq_false, not_false_eq_true, true_implies, false_implies, implies_true, ite_self, ne_eq, forall_eq, forall_const, if_false, if_true, ite_false, ite_true]
    by_cases e : q = 0
    · subst e
      simp only [true_and, if_true]
      rw [if_neg (show ¬ (f + n ≤ k ∧ k < f + n + 0) by omega)]
    · simp only [e, false_and, if_false]
  | succ j ih =>
    simp only [msh, gI_sI, gI_sL, gI_sD, gI_sR, gI_nO, gI_cL, gI_cD, gL_sI, gL_sL, gL_sD, gL_sR, gL_nO, gL_cL, gL_cD, gD_sI, gD_sL, gD_sD, gD_sR, gD_nO, gD_cL, gD_cD, gR_sI, gR_sL, gR_sD, gR_sR, gR_nO, gR_cL, gR_cD, gV_sI, gV_sL, gV_sD, gV_sR, gV_nO, gV_cL, gV_cD, gV_nO_mono, reduceCtorEq, Nat.reduceDiv, Nat.reduceMul, Nat.reduceMod, Nat.reduceLT, Nat.reduceEqDiff, Int32.reduceLT, Int32.reduceLE, Int32.reduceSub, Int32.reduceAdd, false_and, and_false, true_and, and_true, and_self, not_true_eq_false, not_false_eq_true, true_implies, false_implies, implies_true, ite_self, ne_eq, forall_eq, forall_const, if_false, if_true, ite_false, ite_true]
    by_cases e : q = 0
    · subst e
      simp only [true_and, if_true]
      by_cases e2 : k = f + (n + j)
      · rw [if_pos e2, if_pos (by omega)]
      · rw [if_neg e2, ih, if_pos rfl]
        by_cases e3 : f + n ≤ k ∧ k < f + n + j
        · rw [if_pos e3, if_pos (show f + n ≤ k ∧ k < f + n + (j + 1) by omega)]
        · rw [if_neg e3, if_neg (show ¬ (f + n ≤ k ∧ k < f + n + (j + 1)) by omega)]
    · simp only [e, false_and, if_false]
      rw [ih, if_neg e]
theorem msh_D (M : XM) (f i n : Nat) : ∀ j q k, gD (msh M f i n j) 2300 q k = if q = 0 then (if f + n ≤ k ∧ k < f + n + j then 0 else if f ≤ k ∧ k < f + n then gD M 2300 0 (f + i + (k - f)) else gD M 2300 0 k) else gD M 2300 q k := by
  intro j q k
  induction j with
  | zero =>
    simp only [msh, gI_sI, gI_sL, gI_sD, gI_sR, gI_nO, gI_cL, gI_cD, gL_sI, gL_sL, gL_sD, gL_sR, gL_nO, gL_cL, gL_cD, gD_sI, gD_sL, gD_sD, gD_sR, gD_nO, gD_cL, gD_cD, gR_sI, gR_sL, gR_sD, gR_sR, gR_nO, gR_cL, gR_cD, gV_sI, gV_sL, gV_sD, gV_sR, gV_nO, gV_cL, gV_cD, gV_nO_mono, reduceCtorEq, Nat.reduceDiv, Nat.reduceMul, Nat.reduceMod, Nat.reduceLT, Nat.reduceEqDiff, Int32.reduceLT, Int32.reduceLE, Int32.reduceSub, Int32.reduceAdd, false_and, and_false, true_and, and_true, and_self, not_true_eq_false, not_false_eq_true, true_implies, false_implies, implies_true, ite_self, ne_eq, forall_eq, forall_const, if_false, if_true, ite_false, ite_true]
    by_cases e : q = 0
    · subst e
      simp only [true_and, if_true]
      rw [if_neg (show ¬ (f + n ≤ k ∧ k < f + n + 0) by omega)]
    · simp only [e, false_and, if_false]
  | succ j ih =>
    simp only [msh, gI_sI, gI_sL, gI_sD, gI_sR, gI_nO, gI_cL, gI_cD, gL_sI, gL_sL, gL_sD, gL_sR, gL_nO, gL_cL, gL_cD, gD_sI, gD_sL, gD_sD, gD_sR, gD_nO, gD_cL, gD_cD, gR_sI, gR_sL, gR_sD, gR_sR, gR_nO, gR_cL, gR_cD, gV_sI, gV_sL, gV_sD, gV_sR, gV_nO, gV_cL, gV_cD, gV_nO_mono, reduceCtorEq, Nat.reduceDiv, Nat.reduceMul, Nat.reduceMod, Nat.reduceLT, Nat.reduceEqDiff, Int32.reduceLT, Int32.reduceLE, Int32.reduceSub, Int32.reduceAdd, false_and, and_false, true_and, and_true, and_self, not_true_eq_false, not_false_eq_true, true_implies, false_implies, implies_true, ite_self, ne_eq, forall_eq, forall_const, if_false, if_true, ite_false, ite_true]
    by_cases e : q = 0
    · subst e
      simp only [true_and, if_true]
      by_cases e2 : k = f + (n + j)
      · rw [if_pos e2, if_pos (by omega)]
        rfl
      · rw [if_neg e2, ih, if_pos rfl]
        by_cases e3 : f + n ≤ k ∧ k < f + n + j
        · rw [if_pos e3, if_pos (show f + n ≤ k ∧ k < f + n + (j + 1) by omega)]
        · rw [if_neg e3, if_neg (show ¬ (f + n ≤ k ∧ k < f + n + (j + 1)) by omega)]
    · simp only [e, false_and, if_false]
      rw [ih, if_neg e]
theorem v_X7_shift {l : Launch} {D : DX} {b0 : Nat} {M : XM} {post : XM → Option XV → Prop} {f i n : Nat} (r1 : gR M 800 0 0 = some 0) (r2 : gR M 801 0 0 = some 0) (hf : f + 4 ≤ 40) (hin : i + n ≤ 4) (h : post (msh M f i n (4 - n)) none) : xMet l D b0 1 0 0 yX7_shift cX7_shift 5 (none) [vR 7 (some 0), vI (nI f), vI (nI i), vI (nI n)] M post := by
  refine MTX7_shift (Nat.le_of_ble_eq_true rfl) (fun X hX => hX.1 _ _ _ _ _ ?_)
  have loop : ∀ m j, j + m = 4 - n → X 35 [(4, vI (nI (n + j))), (0, vR 7 (some 0)), (1, vI (nI f)), (2, vI (nI i)), (3, vI (nI n))] [] (msh M f i n j) 0 0 := by
    intro m
    induction m with
    | zero =>
      intro j hj
      have e : 4 ≤ n + j := by omega
      rw [show 4 - n = j by omega] at h
      refine hX.2 _ _ _ _ _ ?_
      simp (disch := omega) only [e_callV, e_callS, e_callW, e_goto, e_ci, e_cl, e_cd, e_null, e_iadd, e_isub, e_imul, e_iand, e_ishr, e_idiv, e_irem, e_ineg, e_ladd, e_lsub, e_lor, e_land, e_ldiv, e_lshl, e_lshr, e_i2l, e_l2i, e_i2b, e_i2d, e_l2d, e_d2l, e_dneg, e_dadd, e_dmul, e_ddiv, e_lcmp, e_dcmpl, e_dcmpg, e_dup, e_dup2, e_pop, e_ild, e_lld, e_dld, e_ald, e_ist, e_lst, e_dst, e_ast, e_iinc, e_if_eq, e_icmp_eq, e_if_lt, e_icmp_lt, e_if_ge, e_icmp_ge, e_if_gt, e_icmp_gt, e_if_le, e_icmp_le, e_if_ne, e_icmp_ne, e_ifnull, e_ifnonnull, e_acmp_ne, e_getI, e_getL, e_getR, e_putI, e_putZ, e_putL, e_putR, e_iald, e_iast, e_zald, e_zast, e_lald, e_last, e_dald, e_dast, e_aald, e_aast, e_new, e_newa, e_newq, e_ret0, e_iret, e_zret, e_lret, e_aret, e_obj, e_acpL, e_acpD, e_max, e_d2b, e_b2d, e_sld, e_slen, e_lawret, e_place, e_tsw, xsw, xKn_i, xKn_0, if_false, if_true, eq_self, Nat.zero_add, exists_eq', exists_eq, true_or, or_true, List.length_cons, List.length_nil, Nat.le_refl, Nat.zero_le, Nat.sub_zero, xent, xcat, List.lookup, beq_self_eq_true, Nat.reduceBEq, xst1, xst2, List.filter, Bool.not_true, Bool.not_false, Bool.and_true, Bool.true_and, Bool.and_false, Bool.false_and, xsum, List.map, List.sum_cons, List.sum_nil, List.drop, List.take, List.reverse, List.reverseAux, Option.toList, List.cons_append, List.nil_append, Nat.reduceAdd, Nat.reduceSub, Nat.reduceLeDiff, Nat.reduceEqDiff, true_and, and_true, exists_eq_left', Option.some.injEq, exists_eq_left, List.getElem?_cons_zero, List.getElem?_cons_succ, Prod.mk.injEq, Sum.inr.injEq, gI_sI, gI_sL, gI_sD, gI_sR, gI_nO, gI_cL, gI_cD, gL_sI, gL_sL, gL_sD, gL_sR, gL_nO, gL_cL, gL_cD, gD_sI, gD_sL, gD_sD, gD_sR, gD_nO, gD_cL, gD_cD, gR_sI, gR_sL, gR_sD, gR_sR, gR_nO, gR_cL, gR_cD, gV_sI, gV_sL, gV_sD, gV_sR, gV_nO, gV_cL, gV_cD, gV_nO_mono, y_ltI, y_leI, y_eqI, y_ltl, y_lel, y_eql, y_lle, y_llt, y_leq, y_m1, y_neg, y_nn, y_cl, y_in, y_add, y_addl, y_ladd, y_mul, y_mull, y_lmul, y_subl, y_sub, y_am1, y_divl, y_reml, y_10, y_mod, reduceCtorEq, Nat.reduceDiv, Nat.reduceMul, Nat.reduceMod, Nat.reduceLT, Nat.reduceEqDiff, Int32.reduceLT, Int32.reduceLE, Int32.reduceSub, Int32.reduceAdd, false_and, and_false, true_and, and_true, and_self, not_true_eq_false, not_false_eq_true, true_implies, false_implies, implies_true, ite_self, ne_eq, forall_eq, forall_const, if_false, if_true, ite_false, ite_true, BX7_shift_35, e]
      exact h
    | succ m ih =>
      intro j hj
      have e : ¬ 4 ≤ n + j := by omega
      have e1 : gR (msh M f i n j) 800 0 0 = some 0 := (sm_R (msh_sm M f i n (fun a => a == 800) rfl rfl j) rfl 0 0).trans r1
      have e2 : gR (msh M f i n j) 801 0 0 = some 0 := (sm_R (msh_sm M f i n (fun a => a == 801) rfl rfl j) rfl 0 0).trans r2
      refine hX.2 _ _ _ _ _ ?_
      simp (disch := omega) only [e_callV, e_callS, e_callW, e_goto, e_ci, e_cl, e_cd, e_null, e_iadd, e_isub, e_imul, e_iand, e_ishr, e_idiv, e_irem, e_ineg, e_ladd, e_lsub, e_lor, e_land, e_ldiv, e_lshl, e_lshr, e_i2l, e_l2i, e_i2b, e_i2d, e_l2d, e_d2l, e_dneg, e_dadd, e_dmul, e_ddiv, e_lcmp, e_dcmpl, e_dcmpg, e_dup, e_dup2, e_pop, e_ild, e_lld, e_dld, e_ald, e_ist, e_lst, e_dst, e_ast, e_iinc, e_if_eq, e_icmp_eq, e_if_lt, e_icmp_lt, e_if_ge, e_icmp_ge, e_if_gt, e_icmp_gt, e_if_le, e_icmp_le, e_if_ne, e_icmp_ne, e_ifnull, e_ifnonnull, e_acmp_ne, e_getI, e_getL, e_getR, e_putI, e_putZ, e_putL, e_putR, e_iald, e_iast, e_zald, e_zast, e_lald, e_last, e_dald, e_dast, e_aald, e_aast, e_new, e_newa, e_newq, e_ret0, e_iret, e_zret, e_lret, e_aret, e_obj, e_acpL, e_acpD, e_max, e_d2b, e_b2d, e_sld, e_slen, e_lawret, e_place, e_tsw, xsw, xKn_i, xKn_0, if_false, if_true, eq_self, Nat.zero_add, exists_eq', exists_eq, true_or, or_true, List.length_cons, List.length_nil, Nat.le_refl, Nat.zero_le, Nat.sub_zero, xent, xcat, List.lookup, beq_self_eq_true, Nat.reduceBEq, xst1, xst2, List.filter, Bool.not_true, Bool.not_false, Bool.and_true, Bool.true_and, Bool.and_false, Bool.false_and, xsum, List.map, List.sum_cons, List.sum_nil, List.drop, List.take, List.reverse, List.reverseAux, Option.toList, List.cons_append, List.nil_append, Nat.reduceAdd, Nat.reduceSub, Nat.reduceLeDiff, Nat.reduceEqDiff, true_and, and_true, exists_eq_left', Option.some.injEq, exists_eq_left, List.getElem?_cons_zero, List.getElem?_cons_succ, Prod.mk.injEq, Sum.inr.injEq, gI_sI, gI_sL, gI_sD, gI_sR, gI_nO, gI_cL, gI_cD, gL_sI, gL_sL, gL_sD, gL_sR, gL_nO, gL_cL, gL_cD, gD_sI, gD_sL, gD_sD, gD_sR, gD_nO, gD_cL, gD_cD, gR_sI, gR_sL, gR_sD, gR_sR, gR_nO, gR_cL, gR_cD, gV_sI, gV_sL, gV_sD, gV_sR, gV_nO, gV_cL, gV_cD, gV_nO_mono, y_ltI, y_leI, y_eqI, y_ltl, y_lel, y_eql, y_lle, y_llt, y_leq, y_m1, y_neg, y_nn, y_cl, y_in, y_add, y_addl, y_ladd, y_mul, y_mull, y_lmul, y_subl, y_sub, y_am1, y_divl, y_reml, y_10, y_mod, reduceCtorEq, Nat.reduceDiv, Nat.reduceMul, Nat.reduceMod, Nat.reduceLT, Nat.reduceEqDiff, Int32.reduceLT, Int32.reduceLE, Int32.reduceSub, Int32.reduceAdd, false_and, and_false, true_and, and_true, and_self, not_true_eq_false, not_false_eq_true, true_implies, false_implies, implies_true, ite_self, ne_eq, forall_eq, forall_const, if_false, if_true, ite_false, ite_true, BX7_shift_35, e, e1, e2]
      exact ih (j + 1) (by omega)
  simp (disch := omega) only [e_callV, e_callS, e_callW, e_goto, e_ci, e_cl, e_cd, e_null, e_iadd, e_isub, e_imul, e_iand, e_ishr, e_idiv, e_irem, e_ineg, e_ladd, e_lsub, e_lor, e_land, e_ldiv, e_lshl, e_lshr, e_i2l, e_l2i, e_i2b, e_i2d, e_l2d, e_d2l, e_dneg, e_dadd, e_dmul, e_ddiv, e_lcmp, e_dcmpl, e_dcmpg, e_dup, e_dup2, e_pop, e_ild, e_lld, e_dld, e_ald, e_ist, e_lst, e_dst, e_ast, e_iinc, e_if_eq, e_icmp_eq, e_if_lt, e_icmp_lt, e_if_ge, e_icmp_ge, e_if_gt, e_icmp_gt, e_if_le, e_icmp_le, e_if_ne, e_icmp_ne, e_ifnull, e_ifnonnull, e_acmp_ne, e_getI, e_getL, e_getR, e_putI, e_putZ, e_putL, e_putR, e_iald, e_iast, e_zald, e_zast, e_lald, e_last, e_dald, e_dast, e_aald, e_aast, e_new, e_newa, e_newq, e_ret0, e_iret, e_zret, e_lret, e_aret, e_obj, e_acpL, e_acpD, e_max, e_d2b, e_b2d, e_sld, e_slen, e_lawret, e_place, e_tsw, xsw, xKn_i, xKn_0, if_false, if_true, eq_self, Nat.zero_add, exists_eq', exists_eq, true_or, or_true, List.length_cons, List.length_nil, Nat.le_refl, Nat.zero_le, Nat.sub_zero, xent, xcat, List.lookup, beq_self_eq_true, Nat.reduceBEq, xst1, xst2, List.filter, Bool.not_true, Bool.not_false, Bool.and_true, Bool.true_and, Bool.and_false, Bool.false_and, xsum, List.map, List.sum_cons, List.sum_nil, List.drop, List.take, List.reverse, List.reverseAux, Option.toList, List.cons_append, List.nil_append, Nat.reduceAdd, Nat.reduceSub, Nat.reduceLeDiff, Nat.reduceEqDiff, true_and, and_true, exists_eq_left', Option.some.injEq, exists_eq_left, List.getElem?_cons_zero, List.getElem?_cons_succ, Prod.mk.injEq, Sum.inr.injEq, gI_sI, gI_sL, gI_sD, gI_sR, gI_nO, gI_cL, gI_cD, gL_sI, gL_sL, gL_sD, gL_sR, gL_nO, gL_cL, gL_cD, gD_sI, gD_sL, gD_sD, gD_sR, gD_nO, gD_cL, gD_cD, gR_sI, gR_sL, gR_sD, gR_sR, gR_nO, gR_cL, gR_cD, gV_sI, gV_sL, gV_sD, gV_sR, gV_nO, gV_cL, gV_cD, gV_nO_mono, y_ltI, y_leI, y_eqI, y_ltl, y_lel, y_eql, y_lle, y_llt, y_leq, y_m1, y_neg, y_nn, y_cl, y_in, y_add, y_addl, y_ladd, y_mul, y_mull, y_lmul, y_subl, y_sub, y_am1, y_divl, y_reml, y_10, y_mod, reduceCtorEq, Nat.reduceDiv, Nat.reduceMul, Nat.reduceMod, Nat.reduceLT, Nat.reduceEqDiff, Int32.reduceLT, Int32.reduceLE, Int32.reduceSub, Int32.reduceAdd, false_and, and_false, true_and, and_true, and_self, not_true_eq_false, not_false_eq_true, true_implies, false_implies, implies_true, ite_self, ne_eq, forall_eq, forall_const, if_false, if_true, ite_false, ite_true, BX7_shift_0, r1, r2]
  refine ⟨by omega, by omega, by omega, by omega, by omega, by omega, by omega, by omega, by omega, by omega, ?_⟩
  exact loop (4 - n) 0 (by omega)
def rmv (M : XM) (c i n : Nat) : Nat → XM
  | 0 => M
  | k + 1 => sL (rmv M c i n k) 4900 0 (4 * c + k) (if k < n then gL (rmv M c i n k) 4900 0 (4 * c + i + k) else 0)
theorem rmv_sm (M : XM) (c i n : Nat) (P : Nat → Bool) (h1 : P 4900 = false) : ∀ j, Sm P M (rmv M c i n j) := by
  intro j
  induction j with
  | zero => exact sm_refl _ _
  | succ j ih => exact sm_sL h1 ih
theorem rmv_L (M : XM) (c i n : Nat) : ∀ j k, gL (rmv M c i n j) 4900 0 k = if 4 * c ≤ k ∧ k < 4 * c + j then (if k - 4 * c < n then gL M 4900 0 (k + i) else 0) else gL M 4900 0 k := by
  intro j
  induction j with
  | zero => intro k; rw [if_neg (by omega)]; rfl
  | succ j ih =>
    intro k
    rw [rmv, gL_sL]
    by_cases e : k = 4 * c + j
    · rw [if_pos ⟨rfl, rfl, e⟩, if_pos (show 4 * c ≤ k ∧ k < 4 * c + (j + 1) by omega), ih, if_neg (show ¬ (4 * c ≤ 4 * c + i + j ∧ 4 * c + i + j < 4 * c + j) by omega), show 4 * c + i + j = k + i by omega, show k - 4 * c = j by omega]
    · rw [if_neg (fun z => e z.2.2), ih]
      by_cases e3 : 4 * c ≤ k ∧ k < 4 * c + j
      · rw [if_pos e3, if_pos (show 4 * c ≤ k ∧ k < 4 * c + (j + 1) by omega)]
      · rw [if_neg e3, if_neg (show ¬ (4 * c ≤ k ∧ k < 4 * c + (j + 1)) by omega)]
theorem CLS_mov {M : XM} {σ : SS} {c i n : Nat} (h : CLS M σ) (hc : c < z_nc σ) (hin : i + n ≤ 4) : CLS (msh M (4 * c) i n (4 - n)) (w_mov σ c i n) := by
  obtain ⟨a1, a2, a3, a4, a5, a6⟩ := h
  have sf : tF σ (w_mov σ c i n) := (by simp only [tF, w_mov, z_nf_row, z_inn_row, z_sup_row, z_fac_row, z_las_row, z_lan_row, z_fcn_row, z_fnm_row, z_acn_row, z_ak_row, z_aa_row, z_ab_row, z_ofd_row, z_nl_row, z_par_row, z_off_row, z_the_row, z_sp_row, z_fc_row, z_mad_row, z_mk_row, z_abv_row, z_bt_row, z_rk_row, z_nc_row, z_cl_row, z_cn_row, z_cla_row, z_row_row, z_stp_row, z_beg_row, z_mst_row, z_lst_row, and_self])
  have sl : tL σ (w_mov σ c i n) := (by simp only [tL, w_mov, z_nf_row, z_inn_row, z_sup_row, z_fac_row, z_las_row, z_lan_row, z_fcn_row, z_fnm_row, z_acn_row, z_ak_row, z_aa_row, z_ab_row, z_ofd_row, z_nl_row, z_par_row, z_off_row, z_the_row, z_sp_row, z_fc_row, z_mad_row, z_mk_row, z_abv_row, z_bt_row, z_rk_row, z_nc_row, z_cl_row, z_cn_row, z_cla_row, z_row_row, z_stp_row, z_beg_row, z_mst_row, z_lst_row, and_self])
  have sc : tC σ (w_mov σ c i n) := (by simp only [tC, w_mov, z_nf_row, z_inn_row, z_sup_row, z_fac_row, z_las_row, z_lan_row, z_fcn_row, z_fnm_row, z_acn_row, z_ak_row, z_aa_row, z_ab_row, z_ofd_row, z_nl_row, z_par_row, z_off_row, z_the_row, z_sp_row, z_fc_row, z_mad_row, z_mk_row, z_abv_row, z_bt_row, z_rk_row, z_nc_row, z_cl_row, z_cn_row, z_cla_row, z_row_row, z_stp_row, z_beg_row, z_mst_row, z_lst_row, and_self])
  refine ⟨CFs_sm (msh_sm M _ i n _ rfl rfl _) a1, CF_sm (msh_sm M _ i n _ rfl rfl _) (CF_st sf a2), CL0_sm (msh_sm M _ i n _ rfl rfl _) (CL0_st sl a3), CLc_sm (msh_sm M _ i n _ rfl rfl _) (CLc_st sl a4), CC_sm (msh_sm M _ i n _ rfl rfl _) (CC_st sc a5), ?_⟩
  obtain ⟨m1, m2, m3, m4, m5, m6, m7, m8, m9, m10, m11, m12, m13, m14⟩ := a6
  have sm := msh_sm M (4 * c) i n (fun f => !(f == 2200 || f == 2300)) rfl rfl (4 - n)
  refine ⟨(sm_R sm rfl _ _).trans m1, (sm_R sm rfl _ _).trans m2, (sm_R sm rfl _ _).trans m3, (sm_R sm rfl _ _).trans m4, ?_, (sm_I sm rfl _ _).trans m6, (sm_I sm rfl _ _).trans m7, ?_, ?_, ?_, ?_, ?_, ?_, ?_⟩
  · intro k hk
    simp only [w_mov, z_nf_row, z_inn_row, z_sup_row, z_fac_row, z_las_row, z_lan_row, z_fcn_row, z_fnm_row, z_acn_row, z_ak_row, z_aa_row, z_ab_row, z_ofd_row, z_nl_row, z_par_row, z_off_row, z_the_row, z_sp_row, z_fc_row, z_mad_row, z_mk_row, z_abv_row, z_bt_row, z_rk_row, z_nc_row, z_cl_row, z_cn_row, z_cla_row, z_row_row, z_stp_row, z_beg_row, z_mst_row, z_lst_row]
    rw [msh_L, msh_D, if_pos rfl, if_pos rfl]
    obtain ⟨q1, q2⟩ := m5 k hk
    by_cases e : k / 4 = c
    · rw [if_pos e]
      refine ⟨fun hkc => ?_, fun z => by omega⟩
      by_cases e2 : k % 4 < n
      · rw [if_pos e2, if_neg (by omega), if_pos (by omega), if_neg (by omega), if_pos (by omega)]
        obtain ⟨w1, w2⟩ := (m5 (4 * c + i + k % 4) (by omega)).1 (by omega)
        rw [show (4 * c + i + k % 4) / 4 = c by omega] at w1 w2
        rw [show 4 * c + i + (k - 4 * c) = 4 * c + i + k % 4 by omega, e]
        exact ⟨w1, w2⟩
      · rw [if_neg e2, if_pos (by omega), if_pos (by omega)]
        exact ⟨fun _ => rfl, fun _ => rfl⟩
    · rw [if_neg e, if_neg (by omega), if_neg (by omega), if_neg (by omega), if_neg (by omega)]
      exact ⟨q1, q2⟩
  · rw [sm_I sm rfl]; simp only [w_mov, z_nf_row, z_inn_row, z_sup_row, z_fac_row, z_las_row, z_lan_row, z_fcn_row, z_fnm_row, z_acn_row, z_ak_row, z_aa_row, z_ab_row, z_ofd_row, z_nl_row, z_par_row, z_off_row, z_the_row, z_sp_row, z_fc_row, z_mad_row, z_mk_row, z_abv_row, z_bt_row, z_rk_row, z_nc_row, z_cl_row, z_cn_row, z_cla_row, z_row_row, z_stp_row, z_beg_row, z_mst_row, z_lst_row]; exact m8
  · rw [sm_I sm rfl]; simp only [w_mov, z_nf_row, z_inn_row, z_sup_row, z_fac_row, z_las_row, z_lan_row, z_fcn_row, z_fnm_row, z_acn_row, z_ak_row, z_aa_row, z_ab_row, z_ofd_row, z_nl_row, z_par_row, z_off_row, z_the_row, z_sp_row, z_fc_row, z_mad_row, z_mk_row, z_abv_row, z_bt_row, z_rk_row, z_nc_row, z_cl_row, z_cn_row, z_cla_row, z_row_row, z_stp_row, z_beg_row, z_mst_row, z_lst_row]; exact m9
  · rw [sm_I sm rfl]; simp only [w_mov, z_nf_row, z_inn_row, z_sup_row, z_fac_row, z_las_row, z_lan_row, z_fcn_row, z_fnm_row, z_acn_row, z_ak_row, z_aa_row, z_ab_row, z_ofd_row, z_nl_row, z_par_row, z_off_row, z_the_row, z_sp_row, z_fc_row, z_mad_row, z_mk_row, z_abv_row, z_bt_row, z_rk_row, z_nc_row, z_cl_row, z_cn_row, z_cla_row, z_row_row, z_stp_row, z_beg_row, z_mst_row, z_lst_row]; exact m10
  · rw [sm_L sm rfl]; simp only [w_mov, z_nf_row, z_inn_row, z_sup_row, z_fac_row, z_las_row, z_lan_row, z_fcn_row, z_fnm_row, z_acn_row, z_ak_row, z_aa_row, z_ab_row, z_ofd_row, z_nl_row, z_par_row, z_off_row, z_the_row, z_sp_row, z_fc_row, z_mad_row, z_mk_row, z_abv_row, z_bt_row, z_rk_row, z_nc_row, z_cl_row, z_cn_row, z_cla_row, z_row_row, z_stp_row, z_beg_row, z_mst_row, z_lst_row]; exact m11
  · simpa (decide := true) only [sm_R sm, msh_V] using m12
  · simpa (decide := true) only [sm_R sm, msh_V] using m13
  · simpa (decide := true) only [sm_R sm, msh_V] using m14
theorem REF_mov {M : XM} {σ : SS} {c i n : Nat} (h : REF M σ) (hc : c < 10) (hin : i + n ≤ 4) : REF (rmv M c i n 4) (w_mov σ c i n) := by
  obtain ⟨b1, b2, b3, b4, b5⟩ := h
  have sf : tF σ (w_mov σ c i n) := (by simp only [tF, w_mov, z_nf_row, z_inn_row, z_sup_row, z_fac_row, z_las_row, z_lan_row, z_fcn_row, z_fnm_row, z_acn_row, z_ak_row, z_aa_row, z_ab_row, z_ofd_row, z_nl_row, z_par_row, z_off_row, z_the_row, z_sp_row, z_fc_row, z_mad_row, z_mk_row, z_abv_row, z_bt_row, z_rk_row, z_nc_row, z_cl_row, z_cn_row, z_cla_row, z_row_row, z_stp_row, z_beg_row, z_mst_row, z_lst_row, and_self])
  have sl : tL σ (w_mov σ c i n) := (by simp only [tL, w_mov, z_nf_row, z_inn_row, z_sup_row, z_fac_row, z_las_row, z_lan_row, z_fcn_row, z_fnm_row, z_acn_row, z_ak_row, z_aa_row, z_ab_row, z_ofd_row, z_nl_row, z_par_row, z_off_row, z_the_row, z_sp_row, z_fc_row, z_mad_row, z_mk_row, z_abv_row, z_bt_row, z_rk_row, z_nc_row, z_cl_row, z_cn_row, z_cla_row, z_row_row, z_stp_row, z_beg_row, z_mst_row, z_lst_row, and_self])
  have sc : tC σ (w_mov σ c i n) := (by simp only [tC, w_mov, z_nf_row, z_inn_row, z_sup_row, z_fac_row, z_las_row, z_lan_row, z_fcn_row, z_fnm_row, z_acn_row, z_ak_row, z_aa_row, z_ab_row, z_ofd_row, z_nl_row, z_par_row, z_off_row, z_the_row, z_sp_row, z_fc_row, z_mad_row, z_mk_row, z_abv_row, z_bt_row, z_rk_row, z_nc_row, z_cl_row, z_cn_row, z_cla_row, z_row_row, z_stp_row, z_beg_row, z_mst_row, z_lst_row, and_self])
  refine ⟨SR_sm (rmv_sm M c i n _ rfl 4) b1, RF_sm (rmv_sm M c i n _ rfl 4) (RF_st sf b2), RLd_sm (rmv_sm M c i n _ rfl 4) (RLd_st sl b3), ?_, ?_⟩
  · have b4' := RC_st sc b4
    have sm := rmv_sm M c i n (fun f => !(f == 4900)) rfl 4
    simpa (decide := true) only [RC, sm_I sm] using b4'
  · obtain ⟨p1, p2, p3, p4, p5, p6, p7⟩ := b5
    have sm := rmv_sm M c i n (fun f => !(f == 4900)) rfl 4
    simp (decide := true) only [RM, sm_I sm, sm_L sm]
    simp only [w_mov, z_nf_row, z_inn_row, z_sup_row, z_fac_row, z_las_row, z_lan_row, z_fcn_row, z_fnm_row, z_acn_row, z_ak_row, z_aa_row, z_ab_row, z_ofd_row, z_nl_row, z_par_row, z_off_row, z_the_row, z_sp_row, z_fc_row, z_mad_row, z_mk_row, z_abv_row, z_bt_row, z_rk_row, z_nc_row, z_cl_row, z_cn_row, z_cla_row, z_row_row, z_stp_row, z_beg_row, z_mst_row, z_lst_row]
    refine ⟨p1, p2, p3, p4, p5, p6, fun k hk => ?_⟩
    rw [rmv_L]
    by_cases e : k / 4 = c
    · rw [if_pos e, if_pos (by omega)]
      by_cases e2 : k % 4 < n
      · rw [if_pos e2, if_pos (by omega), p7 _ (by omega), show 4 * c + i + k % 4 = k + i by omega]
      · rw [if_neg e2, if_neg (by omega)]
    · rw [if_neg e, if_neg (by omega)]
      exact p7 k hk
theorem IV_mov {σ : SS} {c i n : Nat} (h : IV σ) (hc : c < z_nc σ) (hin : i + n ≤ 4) : IV (w_mov σ c i n) := by
  obtain ⟨h1, h2, h3, h4, h5, h6, h7⟩ := h
  have sf : tF σ (w_mov σ c i n) := (by simp only [tF, w_mov, z_nf_row, z_inn_row, z_sup_row, z_fac_row, z_las_row, z_lan_row, z_fcn_row, z_fnm_row, z_acn_row, z_ak_row, z_aa_row, z_ab_row, z_ofd_row, z_nl_row, z_par_row, z_off_row, z_the_row, z_sp_row, z_fc_row, z_mad_row, z_mk_row, z_abv_row, z_bt_row, z_rk_row, z_nc_row, z_cl_row, z_cn_row, z_cla_row, z_row_row, z_stp_row, z_beg_row, z_mst_row, z_lst_row, and_self])
  have sl : tL σ (w_mov σ c i n) := (by simp only [tL, w_mov, z_nf_row, z_inn_row, z_sup_row, z_fac_row, z_las_row, z_lan_row, z_fcn_row, z_fnm_row, z_acn_row, z_ak_row, z_aa_row, z_ab_row, z_ofd_row, z_nl_row, z_par_row, z_off_row, z_the_row, z_sp_row, z_fc_row, z_mad_row, z_mk_row, z_abv_row, z_bt_row, z_rk_row, z_nc_row, z_cl_row, z_cn_row, z_cla_row, z_row_row, z_stp_row, z_beg_row, z_mst_row, z_lst_row, and_self])
  have sc : tC σ (w_mov σ c i n) := (by simp only [tC, w_mov, z_nf_row, z_inn_row, z_sup_row, z_fac_row, z_las_row, z_lan_row, z_fcn_row, z_fnm_row, z_acn_row, z_ak_row, z_aa_row, z_ab_row, z_ofd_row, z_nl_row, z_par_row, z_off_row, z_the_row, z_sp_row, z_fc_row, z_mad_row, z_mk_row, z_abv_row, z_bt_row, z_rk_row, z_nc_row, z_cl_row, z_cn_row, z_cla_row, z_row_row, z_stp_row, z_beg_row, z_mst_row, z_lst_row, and_self])
  refine ⟨IF_st sf h1, IL_st sf sl h2, IT_st (by simp only [w_mov, z_nf_row, z_inn_row, z_sup_row, z_fac_row, z_las_row, z_lan_row, z_fcn_row, z_fnm_row, z_acn_row, z_ak_row, z_aa_row, z_ab_row, z_ofd_row, z_nl_row, z_par_row, z_off_row, z_the_row, z_sp_row, z_fc_row, z_mad_row, z_mk_row, z_abv_row, z_bt_row, z_rk_row, z_nc_row, z_cl_row, z_cn_row, z_cla_row, z_row_row, z_stp_row, z_beg_row, z_mst_row, z_lst_row]) sl h3, IC_st (by simp only [w_mov, z_nf_row, z_inn_row, z_sup_row, z_fac_row, z_las_row, z_lan_row, z_fcn_row, z_fnm_row, z_acn_row, z_ak_row, z_aa_row, z_ab_row, z_ofd_row, z_nl_row, z_par_row, z_off_row, z_the_row, z_sp_row, z_fc_row, z_mad_row, z_mk_row, z_abv_row, z_bt_row, z_rk_row, z_nc_row, z_cl_row, z_cn_row, z_cla_row, z_row_row, z_stp_row, z_beg_row, z_mst_row, z_lst_row]) sc h4, ?_, ?_, ?_, IA_st sf h7.2⟩
  · simp only [IR, w_mov, z_nf_row, z_inn_row, z_sup_row, z_fac_row, z_las_row, z_lan_row, z_fcn_row, z_fnm_row, z_acn_row, z_ak_row, z_aa_row, z_ab_row, z_ofd_row, z_nl_row, z_par_row, z_off_row, z_the_row, z_sp_row, z_fc_row, z_mad_row, z_mk_row, z_abv_row, z_bt_row, z_rk_row, z_nc_row, z_cl_row, z_cn_row, z_cla_row, z_row_row, z_stp_row, z_beg_row, z_mst_row, z_lst_row]
    intro k hk hkc hl
    have h10 := h4.1
    by_cases e : k / 4 = c
    · rw [if_pos e]
      by_cases e2 : k % 4 < n
      · rw [if_pos e2]
        exact h5 _ (by omega) (by omega) (by rw [show (4 * c + i + k % 4) / 4 = c by omega, ← e]; exact hl)
      · rw [if_neg e2]
        exact gdd_0
    · rw [if_neg e]
      exact h5 k hk hkc hl
  · simp only [w_mov, z_nf_row, z_inn_row, z_sup_row, z_fac_row, z_las_row, z_lan_row, z_fcn_row, z_fnm_row, z_acn_row, z_ak_row, z_aa_row, z_ab_row, z_ofd_row, z_nl_row, z_par_row, z_off_row, z_the_row, z_sp_row, z_fc_row, z_mad_row, z_mk_row, z_abv_row, z_bt_row, z_rk_row, z_nc_row, z_cl_row, z_cn_row, z_cla_row, z_row_row, z_stp_row, z_beg_row, z_mst_row, z_lst_row]
    exact h6
  · simp only [w_mov, z_nf_row, z_inn_row, z_sup_row, z_fac_row, z_las_row, z_lan_row, z_fcn_row, z_fnm_row, z_acn_row, z_ak_row, z_aa_row, z_ab_row, z_ofd_row, z_nl_row, z_par_row, z_off_row, z_the_row, z_sp_row, z_fc_row, z_mad_row, z_mk_row, z_abv_row, z_bt_row, z_rk_row, z_nc_row, z_cl_row, z_cn_row, z_cla_row, z_row_row, z_stp_row, z_beg_row, z_mst_row, z_lst_row]
    exact h7.1
