/-! PURE: what is below what, on both sides. -/
-- lists of locals by their places
def C1 (ls : List (Nat × XV)) : Prop := ∀ q ∈ ls, xcat q.2 = 1
theorem c1_st {ls : List (Nat × XV)} {i : Nat} {v : XV} (h : C1 ls) (hv : xcat v = 1) : C1 (xst1 ls i v) := by
  intro q hq
  unfold xst1 at hq
  rcases List.mem_cons.mp hq with rfl | hq
  · exact hv
  · exact h q (List.mem_filter.mp hq).1
theorem c1_I {ls : List (Nat × XV)} {i : Nat} {x : Int32} (h : C1 ls) : C1 (xst1 ls i (vI x)) := c1_st h rfl
theorem c1_R {ls : List (Nat × XV)} {i k : Nat} {o : Option Nat} (h : C1 ls) : C1 (xst1 ls i (vR k o)) := c1_st h rfl
theorem lk_st1 {ls : List (Nat × XV)} {i j : Nat} {v : XV} (h : C1 ls) : List.lookup j (xst1 ls i v) = if j = i then some v else List.lookup j ls := by
  unfold xst1
  by_cases e : j = i
  · subst e
    simp
  · rw [if_neg e, List.lookup_cons]
    have e2 : (j == i) = false := by simpa using e
    rw [e2]
    dsimp only
    induction ls with
    | nil => rfl
    | cons q t ih =>
      obtain ⟨a, b⟩ := q
      have hb : xcat b = 1 := h (a, b) List.mem_cons_self
      have ht : C1 t := fun q hq => h q (List.mem_cons_of_mem _ hq)
      rw [List.filter_cons]
      by_cases e3 : a = i
      · subst e3
        simp only [beq_self_eq_true, Bool.not_true, Bool.false_and, Bool.false_eq_true, if_false]
        rw [List.lookup_cons, e2]
        exact ih ht
      · have e4 : (a == i) = false := by simpa using e3
        simp only [e4, hb, Bool.not_false, Bool.true_and]
        have e5 : (!(a + 1 == i && (1 : Nat) == 2)) = true := by simp
        rw [if_pos e5, List.lookup_cons, List.lookup_cons, ih ht]
-- bits
theorem bit_shr {x : Int64} {d : Nat} (hd : d < 64) : ((x >>> ((nI d).toInt64 &&& 63)) &&& 1 = 0) = (bitOf x d = false) := by
  have h1 : ∀ d, d < 64 → (((nI d).toInt64 &&& 63).toBitVec.smod 64).toNat = d := by decide +kernel
  rw [← Int64.toBitVec_inj, Int64.toBitVec_and, Int64.toBitVec_shiftRight, BitVec.sshiftRight_eq', h1 d hd]
  show (x.toBitVec.sshiftRight d &&& 1#64 = 0#64) = (x.toBitVec.getLsbD d = false)
  have e0 : (x.toBitVec.sshiftRight d).getLsbD 0 = x.toBitVec.getLsbD d := by
    rw [BitVec.getLsbD_sshiftRight]
    simp [hd]
  refine propext ⟨fun h => ?_, fun h => ?_⟩
  · have := congrArg (fun v => v.getLsbD 0) h
    simp only [BitVec.getLsbD_and, e0] at this
    simpa using this
  · apply BitVec.eq_of_getLsbD_eq
    intro i hi
    by_cases e : i = 0
    · subst e
      rw [BitVec.getLsbD_and, e0, h]
      rfl
    · simp [BitVec.getLsbD_and, BitVec.getLsbD_one, e]
theorem v_X4_isBelow {l : Launch} {D : DX} {b0 : Nat} {M : XM} {post : XM → Option XV → Prop} {σ : SS} {c d f g : Nat} (hK : CK M σ) (hI : IL σ) (hc : z_off σ c = some f) (hd : z_off σ d = some g) (h : post M (some (vI (b2i (z_bt σ c d))))) : xMet l D b0 1 0 0 yX4_isBelow cX4_isBelow 2 (some FieldType.boolean) [vR 4 (some c), vR 4 (some d)] M post := by
  obtain ⟨q1, q2, q3, q4, q5, q6, q7, q8, q9, q10⟩ := hK.2.2.2 c f hc
  obtain ⟨p1, p2, p3, p4, p5, -⟩ := hK.2.2.2 d g hd
  have hlt := off_lt hI hd
  have hn8 := hI.2.1
  have hb := q10 (d / 64) (d % 64) (by omega) (by omega)
  rw [Nat.div_add_mod] at hb
  refine MTX4_isBelow (Nat.le_of_ble_eq_true rfl) (fun X hX => hX _ _ _ _ _ ?_)
  simp (disch := omega) only [e_callV, e_callS, e_callW, e_goto, e_ci, e_cl, e_cd, e_null, e_iadd, e_isub, e_imul, e_iand, e_ishr, e_idiv, e_irem, e_ineg, e_ladd, e_lsub, e_lor, e_land, e_ldiv, e_lshl, e_lshr, e_i2l, e_l2i, e_i2b, e_i2d, e_l2d, e_d2l, e_dneg, e_dadd, e_dmul, e_ddiv, e_lcmp, e_dcmpl, e_dcmpg, e_dup, e_dup2, e_pop, e_ild, e_lld, e_dld, e_ald, e_ist, e_lst, e_dst, e_ast, e_iinc, e_if_eq, e_icmp_eq, e_if_lt, e_icmp_lt, e_if_ge, e_icmp_ge, e_if_gt, e_icmp_gt, e_if_le, e_icmp_le, e_if_ne, e_icmp_ne, e_ifnull, e_ifnonnull, e_acmp_ne, e_getI, e_getL, e_getR, e_putI, e_putZ, e_putL, e_putR, e_iald, e_iast, e_zald, e_zast, e_lald, e_last, e_dald, e_dast, e_aald, e_aast, e_new, e_newa, e_newq, e_ret0, e_iret, e_zret, e_lret, e_aret, e_obj, e_acpL, e_acpD, e_max, e_d2b, e_b2d, e_sld, e_slen, e_lawret, e_place, e_tsw, xsw, xKn_i, xKn_0, if_false, if_true, eq_self, Nat.zero_add, exists_eq', exists_eq, true_or, or_true, List.length_cons, List.length_nil, Nat.le_refl, Nat.zero_le, Nat.sub_zero, xent, xcat, List.lookup, beq_self_eq_true, Nat.reduceBEq, xst1, xst2, List.filter, Bool.not_true, Bool.not_false, Bool.and_true, Bool.true_and, Bool.and_false, Bool.false_and, xsum, List.map, List.sum_cons, List.sum_nil, List.drop, List.take, List.reverse, List.reverseAux, Option.toList, List.cons_append, List.nil_append, Nat.reduceAdd, Nat.reduceSub, Nat.reduceLeDiff, Nat.reduceEqDiff, true_and, and_true, exists_eq_left', Option.some.injEq, exists_eq_left, List.getElem?_cons_zero, List.getElem?_cons_succ, Prod.mk.injEq, Sum.inr.injEq, gI_sI, gI_sL, gI_sD, gI_sR, gI_nO, gI_cL, gI_cD, gL_sI, gL_sL, gL_sD, gL_sR, gL_nO, gL_cL, gL_cD, gD_sI, gD_sL, gD_sD, gD_sR, gD_nO, gD_cL, gD_cD, gR_sI, gR_sL, gR_sD, gR_sR, gR_nO, gR_cL, gR_cD, gV_sI, gV_sL, gV_sD, gV_sR, gV_nO, gV_cL, gV_cD, gV_nO_mono, y_ltI, y_leI, y_eqI, y_ltl, y_lel, y_eql, y_lle, y_llt, y_leq, y_m1, y_neg, y_nn, y_cl, y_in, y_add, y_addl, y_ladd, y_mul, y_mull, y_lmul, y_subl, y_sub, y_am1, y_divl, y_reml, y_10, y_mod, reduceCtorEq, Nat.reduceDiv, Nat.reduceMul, Nat.reduceMod, Nat.reduceLT, Nat.reduceEqDiff, Int32.reduceLT, Int32.reduceLE, Int32.reduceSub, Int32.reduceAdd, false_and, and_false, true_and, and_true, and_self, not_true_eq_false, not_false_eq_true, true_implies, false_implies, implies_true, ite_self, ne_eq, forall_eq, forall_const, if_false, if_true, ite_false, ite_true, BX4_isBelow_0, q5, p4, y_shr6, y_and63, lg_cmp_eq, bit_shr, hb]
  cases e : z_bt σ c d with
  | true => rw [e] at h; exact ⟨fun z => (by cases z), fun _ => h⟩
  | false => rw [e] at h; exact ⟨fun _ => h, fun z => absurd rfl z⟩
theorem v_X5_isBelow {l : Launch} {D : DX} {b0 : Nat} {M : XM} {post : XM → Option XV → Prop} {σ : SS} {lo k : Nat} (hK : CL0 M σ) (hI : IL σ) (hl : lo < z_nl σ) (h : post M (some (vI (b2i (lbe σ 9 lo k))))) : xMet l D b0 1 0 0 yX5_isBelow cX5_isBelow 3 (some FieldType.boolean) [vR 5 (some lo), vR 5 (some k)] M post := by
  have hn8 := hI.2.1
  refine MTX5_isBelow (Nat.le_of_ble_eq_true rfl) (fun X hX => hX.1 _ _ _ _ _ ?_)
  have loop : ∀ l, l < z_nl σ → post M (some (vI (b2i (lbe σ 9 l k)))) → X 2 [(2, vR 5 (some l)), (0, vR 5 (some lo)), (1, vR 5 (some k))] [] M 0 0 := by
    intro l
    induction l using Nat.strongRecOn with
    | ind l ih =>
      intro hl hp
      obtain ⟨d1, d2, d3, d4, d5⟩ := hK.2.2.2.2.2.1 l hl
      refine hX.2 _ _ _ _ _ ?_
      cases e : z_par σ l with
      | none =>
        rw [lbe_root e] at hp
        rw [e] at d2
        simp (disch := omega) only [e_callV, e_callS, e_callW, e_goto, e_ci, e_cl, e_cd, e_null, e_iadd, e_isub, e_imul, e_iand, e_ishr, e_idiv, e_irem, e_ineg, e_ladd, e_lsub, e_lor, e_land, e_ldiv, e_lshl, e_lshr, e_i2l, e_l2i, e_i2b, e_i2d, e_l2d, e_d2l, e_dneg, e_dadd, e_dmul, e_ddiv, e_lcmp, e_dcmpl, e_dcmpg, e_dup, e_dup2, e_pop, e_ild, e_lld, e_dld, e_ald, e_ist, e_lst, e_dst, e_ast, e_iinc, e_if_eq, e_icmp_eq, e_if_lt, e_icmp_lt, e_if_ge, e_icmp_ge, e_if_gt, e_icmp_gt, e_if_le, e_icmp_le, e_if_ne, e_icmp_ne, e_ifnull, e_ifnonnull, e_acmp_ne, e_getI, e_getL, e_getR, e_putI, e_putZ, e_putL, e_putR, e_iald, e_iast, e_zald, e_zast, e_lald, e_last, e_dald, e_dast, e_aald, e_aast, e_new, e_newa, e_newq, e_ret0, e_iret, e_zret, e_lret, e_aret, e_obj, e_acpL, e_acpD, e_max, e_d2b, e_b2d, e_sld, e_slen, e_lawret, e_place, e_tsw, xsw, xKn_i, xKn_0, if_false, if_true, eq_self, Nat.zero_add, exists_eq', exists_eq, true_or, or_true, List.length_cons, List.length_nil, Nat.le_refl, Nat.zero_le, Nat.sub_zero, xent, xcat, List.lookup, beq_self_eq_true, Nat.reduceBEq, xst1, xst2, List.filter, Bool.not_true, Bool.not_false, Bool.and_true, Bool.true_and, Bool.and_false, Bool.false_and, xsum, List.map, List.sum_cons, List.sum_nil, List.drop, List.take, List.reverse, List.reverseAux, Option.toList, List.cons_append, List.nil_append, Nat.reduceAdd, Nat.reduceSub, Nat.reduceLeDiff, Nat.reduceEqDiff, true_and, and_true, exists_eq_left', Option.some.injEq, exists_eq_left, List.getElem?_cons_zero, List.getElem?_cons_succ, Prod.mk.injEq, Sum.inr.injEq, gI_sI, gI_sL, gI_sD, gI_sR, gI_nO, gI_cL, gI_cD, gL_sI, gL_sL, gL_sD, gL_sR, gL_nO, gL_cL, gL_cD, gD_sI, gD_sL, gD_sD, gD_sR, gD_nO, gD_cL, gD_cD, gR_sI, gR_sL, gR_sD, gR_sR, gR_nO, gR_cL, gR_cD, gV_sI, gV_sL, gV_sD, gV_sR, gV_nO, gV_cL, gV_cD, gV_nO_mono, y_ltI, y_leI, y_eqI, y_ltl, y_lel, y_eql, y_lle, y_llt, y_leq, y_m1, y_neg, y_nn, y_cl, y_in, y_add, y_addl, y_ladd, y_mul, y_mull, y_lmul, y_subl, y_sub, y_am1, y_divl, y_reml, y_10, y_mod, reduceCtorEq, Nat.reduceDiv, Nat.reduceMul, Nat.reduceMod, Nat.reduceLT, Nat.reduceEqDiff, Int32.reduceLT, Int32.reduceLE, Int32.reduceSub, Int32.reduceAdd, false_and, and_false, true_and, and_true, and_self, not_true_eq_false, not_false_eq_true, true_implies, false_implies, implies_true, ite_self, ne_eq, forall_eq, forall_const, if_false, if_true, ite_false, ite_true, BX5_isBelow_2, d2]
        refine ⟨fun z => ?_, fun z => ?_⟩
        · refine hX.2 _ _ _ _ _ ?_
          simp (disch := omega) only [e_callV, e_callS, e_callW, e_goto, e_ci, e_cl, e_cd, e_null, e_iadd, e_isub, e_imul, e_iand, e_ishr, e_idiv, e_irem, e_ineg, e_ladd, e_lsub, e_lor, e_land, e_ldiv, e_lshl, e_lshr, e_i2l, e_l2i, e_i2b, e_i2d, e_l2d, e_d2l, e_dneg, e_dadd, e_dmul, e_ddiv, e_lcmp, e_dcmpl, e_dcmpg, e_dup, e_dup2, e_pop, e_ild, e_lld, e_dld, e_ald, e_ist, e_lst, e_dst, e_ast, e_iinc, e_if_eq, e_icmp_eq, e_if_lt, e_icmp_lt, e_if_ge, e_icmp_ge, e_if_gt, e_icmp_gt, e_if_le, e_icmp_le, e_if_ne, e_icmp_ne, e_ifnull, e_ifnonnull, e_acmp_ne, e_getI, e_getL, e_getR, e_putI, e_putZ, e_putL, e_putR, e_iald, e_iast, e_zald, e_zast, e_lald, e_last, e_dald, e_dast, e_aald, e_aast, e_new, e_newa, e_newq, e_ret0, e_iret, e_zret, e_lret, e_aret, e_obj, e_acpL, e_acpD, e_max, e_d2b, e_b2d, e_sld, e_slen, e_lawret, e_place, e_tsw, xsw, xKn_i, xKn_0, if_false, if_true, eq_self, Nat.zero_add, exists_eq', exists_eq, true_or, or_true, List.length_cons, List.length_nil, Nat.le_refl, Nat.zero_le, Nat.sub_zero, xent, xcat, List.lookup, beq_self_eq_true, Nat.reduceBEq, xst1, xst2, List.filter, Bool.not_true, Bool.not_false, Bool.and_true, Bool.true_and, Bool.and_false, Bool.false_and, xsum, List.map, List.sum_cons, List.sum_nil, List.drop, List.take, List.reverse, List.reverseAux, Option.toList, List.cons_append, List.nil_append, Nat.reduceAdd, Nat.reduceSub, Nat.reduceLeDiff, Nat.reduceEqDiff, true_and, and_true, exists_eq_left', Option.some.injEq, exists_eq_left, List.getElem?_cons_zero, List.getElem?_cons_succ, Prod.mk.injEq, Sum.inr.injEq, gI_sI, gI_sL, gI_sD, gI_sR, gI_nO, gI_cL, gI_cD, gL_sI, gL_sL, gL_sD, gL_sR, gL_nO, gL_cL, gL_cD, gD_sI, gD_sL, gD_sD, gD_sR, gD_nO, gD_cL, gD_cD, gR_sI, gR_sL, gR_sD, gR_sR, gR_nO, gR_cL, gR_cD, gV_sI, gV_sL, gV_sD, gV_sR, gV_nO, gV_cL, gV_cD, gV_nO_mono, y_ltI, y_leI, y_eqI, y_ltl, y_lel, y_eql, y_lle, y_llt, y_leq, y_m1, y_neg, y_nn, y_cl, y_in, y_add, y_addl, y_ladd, y_mul, y_mull, y_lmul, y_subl, y_sub, y_am1, y_divl, y_reml, y_10, y_mod, reduceCtorEq, Nat.reduceDiv, Nat.reduceMul, Nat.reduceMod, Nat.reduceLT, Nat.reduceEqDiff, Int32.reduceLT, Int32.reduceLE, Int32.reduceSub, Int32.reduceAdd, false_and, and_false, true_and, and_true, and_self, not_true_eq_false, not_false_eq_true, true_implies, false_implies, implies_true, ite_self, ne_eq, forall_eq, forall_const, if_false, if_true, ite_false, ite_true, BX5_isBelow_2]
          have e2 : (l == k) = false := by simpa using z
          rw [e2] at hp
          exact hp
        · have e2 : (l == k) = true := by simpa using z
          rw [e2] at hp
          exact hp
      | some p =>
        rw [lbe_par hI e] at hp
        rw [e] at d2
        have := par_lt hI e
        simp (disch := omega) only [e_callV, e_callS, e_callW, e_goto, e_ci, e_cl, e_cd, e_null, e_iadd, e_isub, e_imul, e_iand, e_ishr, e_idiv, e_irem, e_ineg, e_ladd, e_lsub, e_lor, e_land, e_ldiv, e_lshl, e_lshr, e_i2l, e_l2i, e_i2b, e_i2d, e_l2d, e_d2l, e_dneg, e_dadd, e_dmul, e_ddiv, e_lcmp, e_dcmpl, e_dcmpg, e_dup, e_dup2, e_pop, e_ild, e_lld, e_dld, e_ald, e_ist, e_lst, e_dst, e_ast, e_iinc, e_if_eq, e_icmp_eq, e_if_lt, e_icmp_lt, e_if_ge, e_icmp_ge, e_if_gt, e_icmp_gt, e_if_le, e_icmp_le, e_if_ne, e_icmp_ne, e_ifnull, e_ifnonnull, e_acmp_ne, e_getI, e_getL, e_getR, e_putI, e_putZ, e_putL, e_putR, e_iald, e_iast, e_zald, e_zast, e_lald, e_last, e_dald, e_dast, e_aald, e_aast, e_new, e_newa, e_newq, e_ret0, e_iret, e_zret, e_lret, e_aret, e_obj, e_acpL, e_acpD, e_max, e_d2b, e_b2d, e_sld, e_slen, e_lawret, e_place, e_tsw, xsw, xKn_i, xKn_0, if_false, if_true, eq_self, Nat.zero_add, exists_eq', exists_eq, true_or, or_true, List.length_cons, List.length_nil, Nat.le_refl, Nat.zero_le, Nat.sub_zero, xent, xcat, List.lookup, beq_self_eq_true, Nat.reduceBEq, xst1, xst2, List.filter, Bool.not_true, Bool.not_false, Bool.and_true, Bool.true_and, Bool.and_false, Bool.false_and, xsum, List.map, List.sum_cons, List.sum_nil, List.drop, List.take, List.reverse, List.reverseAux, Option.toList, List.cons_append, List.nil_append, Nat.reduceAdd, Nat.reduceSub, Nat.reduceLeDiff, Nat.reduceEqDiff, true_and, and_true, exists_eq_left', Option.some.injEq, exists_eq_left, List.getElem?_cons_zero, List.getElem?_cons_succ, Prod.mk.injEq, Sum.inr.injEq, gI_sI, gI_sL, gI_sD, gI_sR, gI_nO, gI_cL, gI_cD, gL_sI, gL_sL, gL_sD, gL_sR, gL_nO, gL_cL, gL_cD, gD_sI, gD_sL, gD_sD, gD_sR, gD_nO, gD_cL, gD_cD, gR_sI, gR_sL, gR_sD, gR_sR, gR_nO, gR_cL, gR_cD, gV_sI, gV_sL, gV_sD, gV_sR, gV_nO, gV_cL, gV_cD, gV_nO_mono, y_ltI, y_leI, y_eqI, y_ltl, y_lel, y_eql, y_lle, y_llt, y_leq, y_m1, y_neg, y_nn, y_cl, y_in, y_add, y_addl, y_ladd, y_mul, y_mull, y_lmul, y_subl, y_sub, y_am1, y_divl, y_reml, y_10, y_mod, reduceCtorEq, Nat.reduceDiv, Nat.reduceMul, Nat.reduceMod, Nat.reduceLT, Nat.reduceEqDiff, Int32.reduceLT, Int32.reduceLE, Int32.reduceSub, Int32.reduceAdd, false_and, and_false, true_and, and_true, and_self, not_true_eq_false, not_false_eq_true, true_implies, false_implies, implies_true, ite_self, ne_eq, forall_eq, forall_const, if_false, if_true, ite_false, ite_true, BX5_isBelow_2, d2]
        refine ⟨fun z => ?_, fun z => ?_⟩
        · have e2 : (l == k) = false := by simpa using z
          rw [e2, Bool.false_or] at hp
          exact ih p this.1 (by omega) hp
        · have e2 : (l == k) = true := by simpa using z
          rw [e2, Bool.true_or] at hp
          exact hp
  simp (disch := omega) only [e_callV, e_callS, e_callW, e_goto, e_ci, e_cl, e_cd, e_null, e_iadd, e_isub, e_imul, e_iand, e_ishr, e_idiv, e_irem, e_ineg, e_ladd, e_lsub, e_lor, e_land, e_ldiv, e_lshl, e_lshr, e_i2l, e_l2i, e_i2b, e_i2d, e_l2d, e_d2l, e_dneg, e_dadd, e_dmul, e_ddiv, e_lcmp, e_dcmpl, e_dcmpg, e_dup, e_dup2, e_pop, e_ild, e_lld, e_dld, e_ald, e_ist, e_lst, e_dst, e_ast, e_iinc, e_if_eq, e_icmp_eq, e_if_lt, e_icmp_lt, e_if_ge, e_icmp_ge, e_if_gt, e_icmp_gt, e_if_le, e_icmp_le, e_if_ne, e_icmp_ne, e_ifnull, e_ifnonnull, e_acmp_ne, e_getI, e_getL, e_getR, e_putI, e_putZ, e_putL, e_putR, e_iald, e_iast, e_zald, e_zast, e_lald, e_last, e_dald, e_dast, e_aald, e_aast, e_new, e_newa, e_newq, e_ret0, e_iret, e_zret, e_lret, e_aret, e_obj, e_acpL, e_acpD, e_max, e_d2b, e_b2d, e_sld, e_slen, e_lawret, e_place, e_tsw, xsw, xKn_i, xKn_0, if_false, if_true, eq_self, Nat.zero_add, exists_eq', exists_eq, true_or, or_true, List.length_cons, List.length_nil, Nat.le_refl, Nat.zero_le, Nat.sub_zero, xent, xcat, List.lookup, beq_self_eq_true, Nat.reduceBEq, xst1, xst2, List.filter, Bool.not_true, Bool.not_false, Bool.and_true, Bool.true_and, Bool.and_false, Bool.false_and, xsum, List.map, List.sum_cons, List.sum_nil, List.drop, List.take, List.reverse, List.reverseAux, Option.toList, List.cons_append, List.nil_append, Nat.reduceAdd, Nat.reduceSub, Nat.reduceLeDiff, Nat.reduceEqDiff, true_and, and_true, exists_eq_left', Option.some.injEq, exists_eq_left, List.getElem?_cons_zero, List.getElem?_cons_succ, Prod.mk.injEq, Sum.inr.injEq, gI_sI, gI_sL, gI_sD, gI_sR, gI_nO, gI_cL, gI_cD, gL_sI, gL_sL, gL_sD, gL_sR, gL_nO, gL_cL, gL_cD, gD_sI, gD_sL, gD_sD, gD_sR, gD_nO, gD_cL, gD_cD, gR_sI, gR_sL, gR_sD, gR_sR, gR_nO, gR_cL, gR_cD, gV_sI, gV_sL, gV_sD, gV_sR, gV_nO, gV_cL, gV_cD, gV_nO_mono, y_ltI, y_leI, y_eqI, y_ltl, y_lel, y_eql, y_lle, y_llt, y_leq, y_m1, y_neg, y_nn, y_cl, y_in, y_add, y_addl, y_ladd, y_mul, y_mull, y_lmul, y_subl, y_sub, y_am1, y_divl, y_reml, y_10, y_mod, reduceCtorEq, Nat.reduceDiv, Nat.reduceMul, Nat.reduceMod, Nat.reduceLT, Nat.reduceEqDiff, Int32.reduceLT, Int32.reduceLE, Int32.reduceSub, Int32.reduceAdd, false_and, and_false, true_and, and_true, and_self, not_true_eq_false, not_false_eq_true, true_implies, false_implies, implies_true, ite_self, ne_eq, forall_eq, forall_const, if_false, if_true, ite_false, ite_true, BX5_isBelow_0]
  exact loop lo hl h
theorem v_X9_isLoaderBelow {l : Launch} {D : DX} {b0 : Nat} {M : XM} {post : XM → Option XV → Prop} {σ : SS} {lo k : Nat} (hS : SR M) (hP : ∀ l, l < z_nl σ → gI M 3500 0 l = o2i (z_par σ l)) (hI : IL σ) (hl : lo < z_nl σ) (hk : k < 1000) (h : post M (some (vI (b2i (lbe σ 9 lo k))))) : xMet l D b0 1 0 0 yX9_isLoaderBelow cX9_isLoaderBelow 4 (some FieldType.boolean) [vR 9 (some 0), vI (nI lo), vI (nI k)] M post := by
  have hn8 := hI.2.1
  refine MTX9_isLoaderBelow (Nat.le_of_ble_eq_true rfl) (fun X hX => hX.1 _ _ _ _ _ ?_)
  have loop : ∀ l, l < z_nl σ → post M (some (vI (b2i (lbe σ 9 l k)))) → X 2 [(3, vI (nI l)), (0, vR 9 (some 0)), (1, vI (nI lo)), (2, vI (nI k))] [] M 0 0 := by
    intro l
    induction l using Nat.strongRecOn with
    | ind l ih =>
      intro hl hp
      have d2 := hP l hl
      refine hX.2 _ _ _ _ _ ?_
      cases e : z_par σ l with
      | none =>
        rw [lbe_root e] at hp
        rw [e, o2i_n] at d2
        simp (disch := omega) only [e_callV, e_callS, e_callW, e_goto, e_ci, e_cl, e_cd, e_null, e_iadd, e_isub, e_imul, e_iand, e_ishr, e_idiv, e_irem, e_ineg, e_ladd, e_lsub, e_lor, e_land, e_ldiv, e_lshl, e_lshr, e_i2l, e_l2i, e_i2b, e_i2d, e_l2d, e_d2l, e_dneg, e_dadd, e_dmul, e_ddiv, e_lcmp, e_dcmpl, e_dcmpg, e_dup, e_dup2, e_pop, e_ild, e_lld, e_dld, e_ald, e_ist, e_lst, e_dst, e_ast, e_iinc, e_if_eq, e_icmp_eq, e_if_lt, e_icmp_lt, e_if_ge, e_icmp_ge, e_if_gt, e_icmp_gt, e_if_le, e_icmp_le, e_if_ne, e_icmp_ne, e_ifnull, e_ifnonnull, e_acmp_ne, e_getI, e_getL, e_getR, e_putI, e_putZ, e_putL, e_putR, e_iald, e_iast, e_zald, e_zast, e_lald, e_last, e_dald, e_dast, e_aald, e_aast, e_new, e_newa, e_newq, e_ret0, e_iret, e_zret, e_lret, e_aret, e_obj, e_acpL, e_acpD, e_max, e_d2b, e_b2d, e_sld, e_slen, e_lawret, e_place, e_tsw, xsw, xKn_i, xKn_0, if_false, if_true, eq_self, Nat.zero_add, exists_eq', exists_eq, true_or, or_true, List.length_cons, List.length_nil, Nat.le_refl, Nat.zero_le, Nat.sub_zero, xent, xcat, List.lookup, beq_self_eq_true, Nat.reduceBEq, xst1, xst2, List.filter, Bool.not_true, Bool.not_false, Bool.and_true, Bool.true_and, Bool.and_false, Bool.false_and, xsum, List.map, List.sum_cons, List.sum_nil, List.drop, List.take, List.reverse, List.reverseAux, Option.toList, List.cons_append, List.nil_append, Nat.reduceAdd, Nat.reduceSub, Nat.reduceLeDiff, Nat.reduceEqDiff, true_and, and_true, exists_eq_left', Option.some.injEq, exists_eq_left, List.getElem?_cons_zero, List.getElem?_cons_succ, Prod.mk.injEq, Sum.inr.injEq, gI_sI, gI_sL, gI_sD, gI_sR, gI_nO, gI_cL, gI_cD, gL_sI, gL_sL, gL_sD, gL_sR, gL_nO, gL_cL, gL_cD, gD_sI, gD_sL, gD_sD, gD_sR, gD_nO, gD_cL, gD_cD, gR_sI, gR_sL, gR_sD, gR_sR, gR_nO, gR_cL, gR_cD, gV_sI, gV_sL, gV_sD, gV_sR, gV_nO, gV_cL, gV_cD, gV_nO_mono, y_ltI, y_leI, y_eqI, y_ltl, y_lel, y_eql, y_lle, y_llt, y_leq, y_m1, y_neg, y_nn, y_cl, y_in, y_add, y_addl, y_ladd, y_mul, y_mull, y_lmul, y_subl, y_sub, y_am1, y_divl, y_reml, y_10, y_mod, reduceCtorEq, Nat.reduceDiv, Nat.reduceMul, Nat.reduceMod, Nat.reduceLT, Nat.reduceEqDiff, Int32.reduceLT, Int32.reduceLE, Int32.reduceSub, Int32.reduceAdd, false_and, and_false, true_and, and_true, and_self, not_true_eq_false, not_false_eq_true, true_implies, false_implies, implies_true, ite_self, ne_eq, forall_eq, forall_const, if_false, if_true, ite_false, ite_true, BX9_isLoaderBelow_2, SR_all hS, d2, Nat.not_lt_zero, y_300, y_200, y_330, y_01, y_toI, y_nn2]
        refine ⟨fun z => ?_, fun z => ?_⟩
        · have e2 : (l == k) = true := by simpa using z
          rw [e2] at hp
          exact ⟨fun z2 => absurd z z2, fun _ => hp⟩
        · refine hX.2 _ _ _ _ _ ?_
          have e2 : (l == k) = false := by simpa using z
          have e3 : ((-1 : Int32) = nI k) = False := eq_false (fun q => by have := y_m1 (a := k) (by omega); rw [q.symm] at this; simp at this)
          rw [e2] at hp
          simp (disch := omega) only [e_callV, e_callS, e_callW, e_goto, e_ci, e_cl, e_cd, e_null, e_iadd, e_isub, e_imul, e_iand, e_ishr, e_idiv, e_irem, e_ineg, e_ladd, e_lsub, e_lor, e_land, e_ldiv, e_lshl, e_lshr, e_i2l, e_l2i, e_i2b, e_i2d, e_l2d, e_d2l, e_dneg, e_dadd, e_dmul, e_ddiv, e_lcmp, e_dcmpl, e_dcmpg, e_dup, e_dup2, e_pop, e_ild, e_lld, e_dld, e_ald, e_ist, e_lst, e_dst, e_ast, e_iinc, e_if_eq, e_icmp_eq, e_if_lt, e_icmp_lt, e_if_ge, e_icmp_ge, e_if_gt, e_icmp_gt, e_if_le, e_icmp_le, e_if_ne, e_icmp_ne, e_ifnull, e_ifnonnull, e_acmp_ne, e_getI, e_getL, e_getR, e_putI, e_putZ, e_putL, e_putR, e_iald, e_iast, e_zald, e_zast, e_lald, e_last, e_dald, e_dast, e_aald, e_aast, e_new, e_newa, e_newq, e_ret0, e_iret, e_zret, e_lret, e_aret, e_obj, e_acpL, e_acpD, e_max, e_d2b, e_b2d, e_sld, e_slen, e_lawret, e_place, e_tsw, xsw, xKn_i, xKn_0, if_false, if_true, eq_self, Nat.zero_add, exists_eq', exists_eq, true_or, or_true, List.length_cons, List.length_nil, Nat.le_refl, Nat.zero_le, Nat.sub_zero, xent, xcat, List.lookup, beq_self_eq_true, Nat.reduceBEq, xst1, xst2, List.filter, Bool.not_true, Bool.not_false, Bool.and_true, Bool.true_and, Bool.and_false, Bool.false_and, xsum, List.map, List.sum_cons, List.sum_nil, List.drop, List.take, List.reverse, List.reverseAux, Option.toList, List.cons_append, List.nil_append, Nat.reduceAdd, Nat.reduceSub, Nat.reduceLeDiff, Nat.reduceEqDiff, true_and, and_true, exists_eq_left', Option.some.injEq, exists_eq_left, List.getElem?_cons_zero, List.getElem?_cons_succ, Prod.mk.injEq, Sum.inr.injEq, gI_sI, gI_sL, gI_sD, gI_sR, gI_nO, gI_cL, gI_cD, gL_sI, gL_sL, gL_sD, gL_sR, gL_nO, gL_cL, gL_cD, gD_sI, gD_sL, gD_sD, gD_sR, gD_nO, gD_cL, gD_cD, gR_sI, gR_sL, gR_sD, gR_sR, gR_nO, gR_cL, gR_cD, gV_sI, gV_sL, gV_sD, gV_sR, gV_nO, gV_cL, gV_cD, gV_nO_mono, y_ltI, y_leI, y_eqI, y_ltl, y_lel, y_eql, y_lle, y_llt, y_leq, y_m1, y_neg, y_nn, y_cl, y_in, y_add, y_addl, y_ladd, y_mul, y_mull, y_lmul, y_subl, y_sub, y_am1, y_divl, y_reml, y_10, y_mod, reduceCtorEq, Nat.reduceDiv, Nat.reduceMul, Nat.reduceMod, Nat.reduceLT, Nat.reduceEqDiff, Int32.reduceLT, Int32.reduceLE, Int32.reduceSub, Int32.reduceAdd, false_and, and_false, true_and, and_true, and_self, not_true_eq_false, not_false_eq_true, true_implies, false_implies, implies_true, ite_self, ne_eq, forall_eq, forall_const, if_false, if_true, ite_false, ite_true, BX9_isLoaderBelow_2, e3]
          exact hp
      | some p =>
        rw [lbe_par hI e] at hp
        rw [e, o2i_s] at d2
        have := par_lt hI e
        simp (disch := omega) only [e_callV, e_callS, e_callW, e_goto, e_ci, e_cl, e_cd, e_null, e_iadd, e_isub, e_imul, e_iand, e_ishr, e_idiv, e_irem, e_ineg, e_ladd, e_lsub, e_lor, e_land, e_ldiv, e_lshl, e_lshr, e_i2l, e_l2i, e_i2b, e_i2d, e_l2d, e_d2l, e_dneg, e_dadd, e_dmul, e_ddiv, e_lcmp, e_dcmpl, e_dcmpg, e_dup, e_dup2, e_pop, e_ild, e_lld, e_dld, e_ald, e_ist, e_lst, e_dst, e_ast, e_iinc, e_if_eq, e_icmp_eq, e_if_lt, e_icmp_lt, e_if_ge, e_icmp_ge, e_if_gt, e_icmp_gt, e_if_le, e_icmp_le, e_if_ne, e_icmp_ne, e_ifnull, e_ifnonnull, e_acmp_ne, e_getI, e_getL, e_getR, e_putI, e_putZ, e_putL, e_putR, e_iald, e_iast, e_zald, e_zast, e_lald, e_last, e_dald, e_dast, e_aald, e_aast, e_new, e_newa, e_newq, e_ret0, e_iret, e_zret, e_lret, e_aret, e_obj, e_acpL, e_acpD, e_max, e_d2b, e_b2d, e_sld, e_slen, e_lawret, e_place, e_tsw, xsw, xKn_i, xKn_0, if_false, if_true, eq_self, Nat.zero_add, exists_eq', exists_eq, true_or, or_true, List.length_cons, List.length_nil, Nat.le_refl, Nat.zero_le, Nat.sub_zero, xent, xcat, List.lookup, beq_self_eq_true, Nat.reduceBEq, xst1, xst2, List.filter, Bool.not_true, Bool.not_false, Bool.and_true, Bool.true_and, Bool.and_false, Bool.false_and, xsum, List.map, List.sum_cons, List.sum_nil, List.drop, List.take, List.reverse, List.reverseAux, Option.toList, List.cons_append, List.nil_append, Nat.reduceAdd, Nat.reduceSub, Nat.reduceLeDiff, Nat.reduceEqDiff, true_and, and_true, exists_eq_left', Option.some.injEq, exists_eq_left, List.getElem?_cons_zero, List.getElem?_cons_succ, Prod.mk.injEq, Sum.inr.injEq, gI_sI, gI_sL, gI_sD, gI_sR, gI_nO, gI_cL, gI_cD, gL_sI, gL_sL, gL_sD, gL_sR, gL_nO, gL_cL, gL_cD, gD_sI, gD_sL, gD_sD, gD_sR, gD_nO, gD_cL, gD_cD, gR_sI, gR_sL, gR_sD, gR_sR, gR_nO, gR_cL, gR_cD, gV_sI, gV_sL, gV_sD, gV_sR, gV_nO, gV_cL, gV_cD, gV_nO_mono, y_ltI, y_leI, y_eqI, y_ltl, y_lel, y_eql, y_lle, y_llt, y_leq, y_m1, y_neg, y_nn, y_cl, y_in, y_add, y_addl, y_ladd, y_mul, y_mull, y_lmul, y_subl, y_sub, y_am1, y_divl, y_reml, y_10, y_mod, reduceCtorEq, Nat.reduceDiv, Nat.reduceMul, Nat.reduceMod, Nat.reduceLT, Nat.reduceEqDiff, Int32.reduceLT, Int32.reduceLE, Int32.reduceSub, Int32.reduceAdd, false_and, and_false, true_and, and_true, and_self, not_true_eq_false, not_false_eq_true, true_implies, false_implies, implies_true, ite_self, ne_eq, forall_eq, forall_const, if_false, if_true, ite_false, ite_true, BX9_isLoaderBelow_2, SR_all hS, d2, Nat.not_lt_zero, y_300, y_200, y_330, y_01, y_toI, y_nn2]
        refine ⟨fun z => ?_, fun z => ?_⟩
        · have e2 : (l == k) = true := by simpa using z
          rw [e2, Bool.true_or] at hp
          exact ⟨fun z2 => absurd z z2, fun _ => hp⟩
        · have e2 : (l == k) = false := by simpa using z
          rw [e2, Bool.false_or] at hp
          exact ih p this.1 (by omega) hp
  simp (disch := omega) only [e_callV, e_callS, e_callW, e_goto, e_ci, e_cl, e_cd, e_null, e_iadd, e_isub, e_imul, e_iand, e_ishr, e_idiv, e_irem, e_ineg, e_ladd, e_lsub, e_lor, e_land, e_ldiv, e_lshl, e_lshr, e_i2l, e_l2i, e_i2b, e_i2d, e_l2d, e_d2l, e_dneg, e_dadd, e_dmul, e_ddiv, e_lcmp, e_dcmpl, e_dcmpg, e_dup, e_dup2, e_pop, e_ild, e_lld, e_dld, e_ald, e_ist, e_lst, e_dst, e_ast, e_iinc, e_if_eq, e_icmp_eq, e_if_lt, e_icmp_lt, e_if_ge, e_icmp_ge, e_if_gt, e_icmp_gt, e_if_le, e_icmp_le, e_if_ne, e_icmp_ne, e_ifnull, e_ifnonnull, e_acmp_ne, e_getI, e_getL, e_getR, e_putI, e_putZ, e_putL, e_putR, e_iald, e_iast, e_zald, e_zast, e_lald, e_last, e_dald, e_dast, e_aald, e_aast, e_new, e_newa, e_newq, e_ret0, e_iret, e_zret, e_lret, e_aret, e_obj, e_acpL, e_acpD, e_max, e_d2b, e_b2d, e_sld, e_slen, e_lawret, e_place, e_tsw, xsw, xKn_i, xKn_0, if_false, if_true, eq_self, Nat.zero_add, exists_eq', exists_eq, true_or, or_true, List.length_cons, List.length_nil, Nat.le_refl, Nat.zero_le, Nat.sub_zero, xent, xcat, List.lookup, beq_self_eq_true, Nat.reduceBEq, xst1, xst2, List.filter, Bool.not_true, Bool.not_false, Bool.and_true, Bool.true_and, Bool.and_false, Bool.false_and, xsum, List.map, List.sum_cons, List.sum_nil, List.drop, List.take, List.reverse, List.reverseAux, Option.toList, List.cons_append, List.nil_append, Nat.reduceAdd, Nat.reduceSub, Nat.reduceLeDiff, Nat.reduceEqDiff, true_and, and_true, exists_eq_left', Option.some.injEq, exists_eq_left, List.getElem?_cons_zero, List.getElem?_cons_succ, Prod.mk.injEq, Sum.inr.injEq, gI_sI, gI_sL, gI_sD, gI_sR, gI_nO, gI_cL, gI_cD, gL_sI, gL_sL, gL_sD, gL_sR, gL_nO, gL_cL, gL_cD, gD_sI, gD_sL, gD_sD, gD_sR, gD_nO, gD_cL, gD_cD, gR_sI, gR_sL, gR_sD, gR_sR, gR_nO, gR_cL, gR_cD, gV_sI, gV_sL, gV_sD, gV_sR, gV_nO, gV_cL, gV_cD, gV_nO_mono, y_ltI, y_leI, y_eqI, y_ltl, y_lel, y_eql, y_lle, y_llt, y_leq, y_m1, y_neg, y_nn, y_cl, y_in, y_add, y_addl, y_ladd, y_mul, y_mull, y_lmul, y_subl, y_sub, y_am1, y_divl, y_reml, y_10, y_mod, reduceCtorEq, Nat.reduceDiv, Nat.reduceMul, Nat.reduceMod, Nat.reduceLT, Nat.reduceEqDiff, Int32.reduceLT, Int32.reduceLE, Int32.reduceSub, Int32.reduceAdd, false_and, and_false, true_and, and_true, and_self, not_true_eq_false, not_false_eq_true, true_implies, false_implies, implies_true, ite_self, ne_eq, forall_eq, forall_const, if_false, if_true, ite_false, ite_true, BX9_isLoaderBelow_0]
  exact loop lo hl h
theorem bt_self {σ : SS} (hT : IT σ) {c : Nat} (hc : z_the σ c = true) : z_bt σ c c = true := ((hT c hc).2.1 c).mpr (.inl rfl)
theorem bt_trans {σ : SS} (hT : IT σ) {a d : Nat} (h2 : z_bt σ a d = true) : ∀ n c, z_rk σ c = n → z_the σ c = true → z_bt σ c a = true → z_bt σ c d = true := by
  intro n
  induction n using Nat.strongRecOn with
  | ind n ih =>
    intro c hr hc h
    obtain ⟨t1, t2, t3⟩ := hT c hc
    rcases (t2 a).mp h with e | ⟨u, hu, h3⟩
    · rw [← e]
      exact h2
    · obtain ⟨w1, w2, w3⟩ := t1 u hu
      exact (t2 d).mpr (.inr ⟨u, hu, ih (z_rk σ u) (by omega) u rfl w1 h3⟩)
theorem bt_the {σ : SS} (hT : IT σ) {d : Nat} : ∀ n c, z_rk σ c = n → z_the σ c = true → z_bt σ c d = true → z_the σ d = true := by
  intro n
  induction n using Nat.strongRecOn with
  | ind n ih =>
    intro c hr hc h
    obtain ⟨t1, t2, t3⟩ := hT c hc
    rcases (t2 d).mp h with e | ⟨u, hu, h3⟩
    · rw [e]
      exact hc
    · obtain ⟨w1, w2, w3⟩ := t1 u hu
      exact ih (z_rk σ u) (by omega) u rfl w1 h3
/-- what holds c and is closed upwards holds all that c is below -/
theorem bt_closed {σ : SS} (hT : IT σ) {S : Nat → Bool} (hS : ∀ a, S a = true → z_the σ a = true ∧ ∀ u, UP σ a u → S u = true) {d : Nat} : ∀ n c, z_rk σ c = n → S c = true → z_bt σ c d = true → S d = true := by
  intro n
  induction n using Nat.strongRecOn with
  | ind n ih =>
    intro c hr hc h
    obtain ⟨t1, t2, t3⟩ := hT c (hS c hc).1
    rcases (t2 d).mp h with e | ⟨u, hu, h3⟩
    · rw [e]
      exact hc
    · obtain ⟨w1, w2, w3⟩ := t1 u hu
      exact ih (z_rk σ u) (by omega) u rfl ((hS c hc).2 u hu) h3
