/-! PURE: TRY, LET GO, CALL on the class's side. -/
theorem FC_end {M : XM} {σ : SS} {j : Nat} {φ : FRM} {ρ : Nat → Int64} (hp : f_p φ < 1000) (hk : f_cnt σ φ ≤ f_p φ + 1) (h : FC M σ j φ (f_p φ + 1)) : FC M σ j (f_keep (f_step φ) ρ) (f_p φ + 1) := by
  obtain ⟨a1, a2, a3, a4, a5, a6, a7, a8, a9, a10⟩ := h
  have e : f_try σ (f_keep (f_step φ) ρ) = false := by
    unfold f_try
    rw [decide_eq_false_iff_not]
    intro z
    have z2 : f_p φ + 1 < f_cnt σ φ := z.2.1
    omega
  refine ⟨a1, a2, a3, a4, a5, a6, a7, ?_, ?_, fun z => by rw [e] at z; cases z⟩
  · rcases a8 with a8 | ⟨k, h1, h2⟩
    · exact .inl a8
    · exact .inr ⟨k, h1, Nat.le_succ_of_le h2⟩
  · rw [e]
    refine ⟨fun z => ?_, fun z => by cases z⟩
    have z : gI M 306 j 0 = nI (f_p φ + 1) := z
    rcases a8 with a8 | ⟨k, h1, h2⟩
    · rw [a8] at z
      have := y_m1 (a := f_p φ + 1) (by omega)
      rw [← z] at this
      simp at this
    · rw [h1, nI_eq (by omega) (by omega)] at z
      omega
def mkp (M : XM) (F : Nat) : XM := mcp (mkp0 M F) (F + 2) 0
def pKP (f : Nat) : Bool := !(f == 307 || (800 ≤ f && f < 900) || (2200 ≤ f && f < 2400))
theorem mkp_sm (M : XM) (F : Nat) : Sm pKP M (mkp M F) := by
  unfold mkp mkp0
  refine sm_trans ?_ (mcp_sm _ _ _ rfl rfl)
  split
  · (repeat' first | exact sm_refl _ _ | refine sm_sI rfl ?_ | refine sm_sR rfl ?_ | refine sm_nO rfl ?_ | refine sm_sL rfl ?_ | refine sm_sD rfl ?_ | refine sm_cL rfl ?_ | refine sm_cD rfl ?_)
  · exact sm_refl _ _
theorem mkp_307 {M : XM} {F : Nat} (h : CMF M) (j : Nat) : gR (mkp M F) 307 j 0 = if j = F then some (F + 2) else gR M 307 j 0 := by
  unfold mkp mkp0 mcp
  rw [gR_cD, gR_cL]
  cases e : gR M 307 F 0 with
  | none =>
    rw [if_pos rfl]
    simp only [gI_sI, gI_sL, gI_sD, gI_sR, gI_nO, gI_cL, gI_cD, gL_sI, gL_sL, gL_sD, gL_sR, gL_nO, gL_cL, gL_cD, gD_sI, gD_sL, gD_sD, gD_sR, gD_nO, gD_cL, gD_cD, gR_sI, gR_sL, gR_sD, gR_sR, gR_nO, gR_cL, gR_cD, gV_sI, gV_sL, gV_sD, gV_sR, gV_nO, gV_cL, gV_cD, gV_nO_mono, reduceCtorEq, Nat.reduceDiv, Nat.reduceMul, Nat.reduceMod, Nat.reduceLT, Nat.reduceEqDiff, Int32.reduceLT, Int32.reduceLE, Int32.reduceSub, Int32.reduceAdd, false_and, and_false, true_and, and_true, and_self, not_true_eq_false, not_false_eq_true, true_implies, false_implies, implies_true, ite_self, ne_eq, forall_eq, forall_const, if_false, if_true, ite_false, ite_true]
  | some q =>
    have eq := (h.2.2.2.2.1 F).2.2.1 q e
    subst eq
    rw [if_neg (by simp)]
    by_cases e2 : j = F
    · rw [if_pos e2, e2, e]
    · rw [if_neg e2]
theorem mkp_V (M : XM) (F k i : Nat) : gV (mkp M F) k i = if (k = 7 ∨ k = 21 ∨ k = 22) ∧ i = F + 2 ∧ gR M 307 F 0 = none then true else gV M k i := by
  have e1 : gV (mkp M F) k i = gV (mkp0 M F) k i := rfl
  rw [e1]
  unfold mkp0
  by_cases e : gR M 307 F 0 = none
  · rw [if_pos e]
    simp only [gI_sI, gI_sL, gI_sD, gI_sR, gI_nO, gI_cL, gI_cD, gL_sI, gL_sL, gL_sD, gL_sR, gL_nO, gL_cL, gL_cD, gD_sI, gD_sL, gD_sD, gD_sR, gD_nO, gD_cL, gD_cD, gR_sI, gR_sL, gR_sD, gR_sR, gR_nO, gR_cL, gR_cD, gV_sI, gV_sL, gV_sD, gV_sR, gV_nO, gV_cL, gV_cD, gV_nO_mono, e, and_true]
    by_cases e7 : k = 7 ∧ i = F + 2
    · simp [e7.1, e7.2]
    · by_cases e21 : k = 21 ∧ i = F + 2
      · simp [e21.1, e21.2]
      · by_cases e22 : k = 22 ∧ i = F + 2
        · simp [e22.1, e22.2]
        · rw [if_neg e22, if_neg e21, if_neg e7, if_neg (fun z => by omega)]
  · rw [if_neg e, if_neg (fun z => e z.2.2)]
theorem mkp0_800 {M : XM} {F : Nat} (h : CMF M) (q : Nat) : (gV (mkp M F) 7 q = true → gR (mkp M F) 800 q 0 = some q ∧ gR (mkp M F) 801 q 0 = some q) := by
  intro hv
  rw [mkp_V] at hv
  unfold mkp mkp0 mcp
  rw [gR_cD, gR_cL, gR_cD, gR_cL]
  by_cases e : gR M 307 F 0 = none
  · rw [if_pos e]
    simp only [gI_sI, gI_sL, gI_sD, gI_sR, gI_nO, gI_cL, gI_cD, gL_sI, gL_sL, gL_sD, gL_sR, gL_nO, gL_cL, gL_cD, gD_sI, gD_sL, gD_sD, gD_sR, gD_nO, gD_cL, gD_cD, gR_sI, gR_sL, gR_sD, gR_sR, gR_nO, gR_cL, gR_cD, gV_sI, gV_sL, gV_sD, gV_sR, gV_nO, gV_cL, gV_cD, gV_nO_mono, reduceCtorEq, Nat.reduceDiv, Nat.reduceMul, Nat.reduceMod, Nat.reduceLT, Nat.reduceEqDiff, Int32.reduceLT, Int32.reduceLE, Int32.reduceSub, Int32.reduceAdd, false_and, and_false, true_and, and_true, and_self, not_true_eq_false, not_false_eq_true, true_implies, false_implies, implies_true, ite_self, ne_eq, forall_eq, forall_const, if_false, if_true, ite_false, ite_true]
    by_cases eq : q = F + 2
    · simp only [eq, if_true]
      exact ⟨trivial, trivial⟩
    · simp only [eq, if_false]
      rw [if_neg (fun z => eq z.2.1)] at hv
      exact h.2.2.2.2.2.2 q hv
  · rw [if_neg e]
    rw [if_neg (fun z => e z.2.2)] at hv
    exact h.2.2.2.2.2.2 q hv
theorem CMF_mkp {M : XM} {F : Nat} (h : CMF M) (hlive : (gR M 2100 0 F).isSome = true) : CMF (mkp M F) := by
  have hC := h
  obtain ⟨m1, m2, m3, m4, m5, m6, m7⟩ := h
  have sm := mkp_sm M F
  have v7 : ∀ q, q = 0 ∨ q = 1 → gV (mkp M F) 7 q = true := by
    intro q hq
    rw [mkp_V]
    split
    · rfl
    · rw [(m6 q).1]
      have : ltb q 2 = true := ltb_t (by omega)
      rw [this]
      rfl
  obtain ⟨w1, w2⟩ := mkp0_800 hC 0 (v7 0 (.inl rfl))
  obtain ⟨w3, w4⟩ := mkp0_800 hC 1 (v7 1 (.inr rfl))
  refine ⟨w1, w2, w3, w4, fun j => ?_, fun q => ?_, mkp0_800 hC⟩
  · obtain ⟨q1, q2, q3, q4⟩ := m5 j
    rw [mkp_V, if_neg (fun z => by omega), sm_R sm (f := 2100) rfl, mkp_307 hC]
    refine ⟨q1, q2, fun i hi => ?_, fun z => ?_⟩
    · by_cases e : j = F
      · rw [if_pos e] at hi
        cases hi
        rw [e]
      · rw [if_neg e] at hi
        exact q3 i hi
    · by_cases e : j = F
      · rw [e] at z
        rw [z] at hlive
        cases hlive
      · rw [if_neg e]
        exact q4 z
  · obtain ⟨q1, q2, q3⟩ := m6 q
    by_cases e : q = F + 2 ∧ gR M 307 F 0 = none
    · have p7 : gV (mkp M F) 7 q = true := by rw [mkp_V, if_pos ⟨.inl rfl, e.1, e.2⟩]
      have p21 : gV (mkp M F) 21 q = true := by rw [mkp_V, if_pos ⟨.inr (.inl rfl), e.1, e.2⟩]
      have p22 : gV (mkp M F) 22 q = true := by rw [mkp_V, if_pos ⟨.inr (.inr rfl), e.1, e.2⟩]
      rw [p7, p21, p22, mkp_307 hC, if_pos (by omega)]
      exact ⟨by simp, rfl, rfl⟩
    · have n : ∀ k, gV (mkp M F) k q = gV M k q := fun k => by rw [mkp_V, if_neg (fun z => e z.2)]
      rw [n, n, n, mkp_307 hC]
      refine ⟨?_, q2, q3⟩
      rw [q1]
      by_cases e2 : q - 2 = F
      · rw [if_pos e2]
        by_cases e3 : q < 2
        · have : ltb q 2 = true := ltb_t e3
          rw [this]
          rfl
        · have e4 : ¬ gR M 307 F 0 = none := fun z => e ⟨by omega, z⟩
          rw [e2]
          cases e5 : gR M 307 F 0 with
          | none => exact absurd e5 e4
          | some i => rfl
      · rw [if_neg e2]
theorem mkp_rows (M : XM) (F q k : Nat) (hq : ¬ q = F + 2) : gL (mkp M F) 2200 q k = gL M 2200 q k ∧ gD (mkp M F) 2300 q k = gD M 2300 q k := by
  unfold mkp
  obtain ⟨e1, e2⟩ := mcp_ne (M := mkp0 M F) (a := F + 2) (b := 0) hq k
  rw [e1, e2]
  unfold mkp0
  split
  · simp only [gI_sI, gI_sL, gI_sD, gI_sR, gI_nO, gI_cL, gI_cD, gL_sI, gL_sL, gL_sD, gL_sR, gL_nO, gL_cL, gL_cD, gD_sI, gD_sL, gD_sD, gD_sR, gD_nO, gD_cL, gD_cD, gR_sI, gR_sL, gR_sD, gR_sR, gR_nO, gR_cL, gR_cD, gV_sI, gV_sL, gV_sD, gV_sR, gV_nO, gV_cL, gV_cD, gV_nO_mono, reduceCtorEq, Nat.reduceDiv, Nat.reduceMul, Nat.reduceMod, Nat.reduceLT, Nat.reduceEqDiff, Int32.reduceLT, Int32.reduceLE, Int32.reduceSub, Int32.reduceAdd, false_and, and_false, true_and, and_true, and_self, not_true_eq_false, not_false_eq_true, true_implies, false_implies, implies_true, ite_self, ne_eq, forall_eq, forall_const, if_false, if_true, ite_false, ite_true, hq]
  · exact ⟨rfl, rfl⟩
theorem CRU_mkp {M : XM} {σ : SS} {F : Nat} (h : CRU M σ) (hlive : (gR M 2100 0 F).isSome = true) : CRU (mkp M F) σ := by
  obtain ⟨a1, a2, a3, a4, a5, a6, a7, a8, a9, a10, a11⟩ := h
  have sm := mkp_sm M F
  have sub : ∀ {P : Nat → Bool}, (∀ f, P f = true → pKP f = true) → Sm P M (mkp M F) := fun hq => sm_sub sm hq
  refine ⟨CFs_sm (sub (fun f q => by simp only [pS, pKP, Bool.or_eq_true, Bool.and_eq_true, decide_eq_true_eq, beq_iff_eq, Bool.not_eq_true', Bool.or_eq_false_iff, Bool.and_eq_false_iff, decide_eq_false_iff_not, beq_eq_false_iff_ne, ne_eq] at *; omega)) a1,
    CF_sm (sub (fun f q => by simp only [pF, pKP, Bool.or_eq_true, Bool.and_eq_true, decide_eq_true_eq, beq_iff_eq, Bool.not_eq_true', Bool.or_eq_false_iff, Bool.and_eq_false_iff, decide_eq_false_iff_not, beq_eq_false_iff_ne, ne_eq] at *; omega)) a2,
    CL0_sm (sub (fun f q => by simp only [pL, pKP, Bool.or_eq_true, Bool.and_eq_true, decide_eq_true_eq, beq_iff_eq, Bool.not_eq_true', Bool.or_eq_false_iff, Bool.and_eq_false_iff, decide_eq_false_iff_not, beq_eq_false_iff_ne, ne_eq] at *; omega)) a3,
    CLc_sm (sub (fun f q => by simp only [pL, pKP, Bool.or_eq_true, Bool.and_eq_true, decide_eq_true_eq, beq_iff_eq, Bool.not_eq_true', Bool.or_eq_false_iff, Bool.and_eq_false_iff, decide_eq_false_iff_not, beq_eq_false_iff_ne, ne_eq] at *; omega)) a4,
    CC_sm (sub (fun f q => by simp only [pC, pKP, Bool.or_eq_true, Bool.and_eq_true, decide_eq_true_eq, beq_iff_eq, Bool.not_eq_true', Bool.or_eq_false_iff, Bool.and_eq_false_iff, decide_eq_false_iff_not, beq_eq_false_iff_ne, ne_eq] at *; omega)) a5, CMF_mkp a6 hlive, ?_, (sm_I sm rfl 0 0).trans a8, (sm_I sm rfl 0 0).trans a9, (sm_I sm rfl 0 0).trans a10, (sm_L sm rfl 0 0).trans a11⟩
  intro k hk
  obtain ⟨e1, e2⟩ := mkp_rows M F 0 k (by omega)
  rw [e1, e2]
  exact a7 k hk
theorem KK_mkp (F : Nat) {M : XM} (h : CMF M) : KK F M (mkp M F) := by
  have sm := mkp_sm M F
  refine ⟨fun j hj => ⟨sm_R sm rfl _ _, sm_I sm rfl _ _, sm_R sm rfl _ _, sm_R sm rfl _ _, sm_R sm rfl _ _, sm_I sm rfl _ _, sm_I sm rfl _ _, sm_I sm rfl _ _, ?_, fun k => mkp_rows M F _ k (by omega)⟩, fun k => mkp_rows M F _ k (by omega), sm_sub sm (fun f q => by simp only [qX, pKP, Bool.or_eq_true, Bool.and_eq_true, decide_eq_true_eq, beq_iff_eq, Bool.not_eq_true', Bool.or_eq_false_iff, Bool.and_eq_false_iff, decide_eq_false_iff_not, beq_eq_false_iff_ne, ne_eq] at *; omega)⟩
  rw [mkp_307 h, if_neg (by omega)]
theorem nB_mkp {M : XM} {F : Nat} (h : CMF M) (hF : F < 104) : nB (mkp M F) + (if gR M 307 F 0 = none then 1 else 0) = nB M ∧ nA (mkp M F) = nA M := by
  unfold nA nB
  simp only [mkp_307 h, sm_R (mkp_sm M F) (f := 2100) rfl]
  refine ⟨?_, trivial⟩
  by_cases e : gR M 307 F 0 = none
  · rw [if_pos e]
    exact (cnt_set (P := fun j => (if j = F then some (F + 2) else gR M 307 j 0).isNone) (Q := fun j => (gR M 307 j 0).isNone) hF (by simp) (by simp [e]) (fun i hi => by simp [hi])).symm
  · rw [if_neg e, Nat.add_zero]
    refine cnt_congr (P := fun j => (if j = F then some (F + 2) else gR M 307 j 0).isNone) (Q := fun j => (gR M 307 j 0).isNone) (fun i hi => ?_)
    by_cases e2 : i = F
    · subst e2
      rw [if_pos rfl]
      cases e3 : gR M 307 i 0 with
      | none => exact absurd e3 e
      | some q => rfl
    · rw [if_neg e2]
theorem v_X6_workTry {l : Launch} {D : DX} {b0 : Nat} {M : XM} {post : XM → Option XV → Prop} {mc ms : Nat} {σ : SS} {F : Nat} {φ : FRM} (hC : CRU M σ) (hI : II σ) (hF : FC M σ F φ (f_p φ + 1)) (hO : FOK σ φ) (hk : f_kind σ φ (f_p φ) = 11)
    (hr : f_p φ + 1 < f_cnt σ φ → gR M 307 F 0 = none → 3 ≤ mc ∧ 82 ≤ ms)
    (h0 : f_cnt σ φ ≤ f_p φ + 1 → post M (some (vI 0)))
    (h1 : f_p φ + 1 < f_cnt σ φ → FC (mkp (sI M 306 F 0 (nI (f_p φ + 1))) F) σ F (f_keep (f_step φ) (z_row σ)) (f_p φ + 1) → post (mkp (sI M 306 F 0 (nI (f_p φ + 1))) F) (some (vI 0))) : xMet l D b0 3 mc ms yX6_workTry cX6_workTry 2 (some FieldType.int) [vR 6 (some 0), vR 2 (some F)] M post := by
  obtain ⟨f, ho, -⟩ := the_off hI.2.1 hO.2.2.1
  have h5 := f_cnt_le hI φ
  have hp := hO.2.2.2.2.2
  refine MTX6_workTry (Nat.le_of_ble_eq_true rfl) (fun X hX => hX _ _ _ _ _ ?_)
  simp (disch := omega) only [e_callV, e_callS, e_callW, e_goto, e_ci, e_cl, e_cd, e_null, e_iadd, e_isub, e_imul, e_iand, e_ishr, e_idiv, e_irem, e_ineg, e_ladd, e_lsub, e_lor, e_land, e_ldiv, e_lshl, e_lshr, e_i2l, e_l2i, e_i2b, e_i2d, e_l2d, e_d2l, e_dneg, e_dadd, e_dmul, e_ddiv, e_lcmp, e_dcmpl, e_dcmpg, e_dup, e_dup2, e_pop, e_ild, e_lld, e_dld, e_ald, e_ist, e_lst, e_dst, e_ast, e_iinc, e_if_eq, e_icmp_eq, e_if_lt, e_icmp_lt, e_if_ge, e_icmp_ge, e_if_gt, e_icmp_gt, e_if_le, e_icmp_le, e_if_ne, e_icmp_ne, e_ifnull, e_ifnonnull, e_acmp_ne, e_getI, e_getL, e_getR, e_putI, e_putZ, e_putL, e_putR, e_iald, e_iast, e_zald, e_zast, e_lald, e_last, e_dald, e_dast, e_aald, e_aast, e_new, e_newa, e_newq, e_ret0, e_iret, e_zret, e_lret, e_aret, e_obj, e_acpL, e_acpD, e_max, e_d2b, e_b2d, e_sld, e_slen, e_lawret, e_place, e_tsw, xsw, xKn_i, xKn_0, if_false, if_true, eq_self, Nat.zero_add, exists_eq', exists_eq, true_or, or_true, List.length_cons, List.length_nil, Nat.le_refl, Nat.zero_le, Nat.sub_zero, xent, xcat, List.lookup, beq_self_eq_true, Nat.reduceBEq, xst1, xst2, List.filter, Bool.not_true, Bool.not_false, Bool.and_true, Bool.true_and, Bool.and_false, Bool.false_and, xsum, List.map, List.sum_cons, List.sum_nil, List.drop, List.take, List.reverse, List.reverseAux, Option.toList, List.cons_append, List.nil_append, Nat.reduceAdd, Nat.reduceSub, Nat.reduceLeDiff, Nat.reduceEqDiff, true_and, and_true, exists_eq_left', Option.some.injEq, exists_eq_left, List.getElem?_cons_zero, List.getElem?_cons_succ, Prod.mk.injEq, Sum.inr.injEq, gI_sI, gI_sL, gI_sD, gI_sR, gI_nO, gI_cL, gI_cD, gL_sI, gL_sL, gL_sD, gL_sR, gL_nO, gL_cL, gL_cD, gD_sI, gD_sL, gD_sD, gD_sR, gD_nO, gD_cL, gD_cD, gR_sI, gR_sL, gR_sD, gR_sR, gR_nO, gR_cL, gR_cD, gV_sI, gV_sL, gV_sD, gV_sR, gV_nO, gV_cL, gV_cD, gV_nO_mono, y_ltI, y_leI, y_eqI, y_ltl, y_lel, y_eql, y_lle, y_llt, y_leq, y_m1, y_neg, y_nn, y_cl, y_in, y_add, y_addl, y_ladd, y_mul, y_mull, y_lmul, y_subl, y_sub, y_am1, y_divl, y_reml, y_10, y_mod, reduceCtorEq, Nat.reduceDiv, Nat.reduceMul, Nat.reduceMod, Nat.reduceLT, Nat.reduceEqDiff, Int32.reduceLT, Int32.reduceLE, Int32.reduceSub, Int32.reduceAdd, false_and, and_false, true_and, and_true, and_self, not_true_eq_false, not_false_eq_true, true_implies, false_implies, implies_true, ite_self, ne_eq, forall_eq, forall_const, if_false, if_true, ite_false, ite_true, BX6_workTry_0]
  refine v_X2_isAtEnd (CRU_CK hC) hI hF ho hO.2.2.2.2.1 (by omega) (fun z => ?_) (fun z => ?_)
  · simp (disch := omega) only [e_callV, e_callS, e_callW, e_goto, e_ci, e_cl, e_cd, e_null, e_iadd, e_isub, e_imul, e_iand, e_ishr, e_idiv, e_irem, e_ineg, e_ladd, e_lsub, e_lor, e_land, e_ldiv, e_lshl, e_lshr, e_i2l, e_l2i, e_i2b, e_i2d, e_l2d, e_d2l, e_dneg, e_dadd, e_dmul, e_ddiv, e_lcmp, e_dcmpl, e_dcmpg, e_dup, e_dup2, e_pop, e_ild, e_lld, e_dld, e_ald, e_ist, e_lst, e_dst, e_ast, e_iinc, e_if_eq, e_icmp_eq, e_if_lt, e_icmp_lt, e_if_ge, e_icmp_ge, e_if_gt, e_icmp_gt, e_if_le, e_icmp_le, e_if_ne, e_icmp_ne, e_ifnull, e_ifnonnull, e_acmp_ne, e_getI, e_getL, e_getR, e_putI, e_putZ, e_putL, e_putR, e_iald, e_iast, e_zald, e_zast, e_lald, e_last, e_dald, e_dast, e_aald, e_aast, e_new, e_newa, e_newq, e_ret0, e_iret, e_zret, e_lret, e_aret, e_obj, e_acpL, e_acpD, e_max, e_d2b, e_b2d, e_sld, e_slen, e_lawret, e_place, e_tsw, xsw, xKn_i, xKn_0, if_false, if_true, eq_self, Nat.zero_add, exists_eq', exists_eq, true_or, or_true, List.length_cons, List.length_nil, Nat.le_refl, Nat.zero_le, Nat.sub_zero, xent, xcat, List.lookup, beq_self_eq_true, Nat.reduceBEq, xst1, xst2, List.filter, Bool.not_true, Bool.not_false, Bool.and_true, Bool.true_and, Bool.and_false, Bool.false_and, xsum, List.map, List.sum_cons, List.sum_nil, List.drop, List.take, List.reverse, List.reverseAux, Option.toList, List.cons_append, List.nil_append, Nat.reduceAdd, Nat.reduceSub, Nat.reduceLeDiff, Nat.reduceEqDiff, true_and, and_true, exists_eq_left', Option.some.injEq, exists_eq_left, List.getElem?_cons_zero, List.getElem?_cons_succ, Prod.mk.injEq, Sum.inr.injEq, gI_sI, gI_sL, gI_sD, gI_sR, gI_nO, gI_cL, gI_cD, gL_sI, gL_sL, gL_sD, gL_sR, gL_nO, gL_cL, gL_cD, gD_sI, gD_sL, gD_sD, gD_sR, gD_nO, gD_cL, gD_cD, gR_sI, gR_sL, gR_sD, gR_sR, gR_nO, gR_cL, gR_cD, gV_sI, gV_sL, gV_sD, gV_sR, gV_nO, gV_cL, gV_cD, gV_nO_mono, y_ltI, y_leI, y_eqI, y_ltl, y_lel, y_eql, y_lle, y_llt, y_leq, y_m1, y_neg, y_nn, y_cl, y_in, y_add, y_addl, y_ladd, y_mul, y_mull, y_lmul, y_subl, y_sub, y_am1, y_divl, y_reml, y_10, y_mod, reduceCtorEq, Nat.reduceDiv, Nat.reduceMul, Nat.reduceMod, Nat.reduceLT, Nat.reduceEqDiff, Int32.reduceLT, Int32.reduceLE, Int32.reduceSub, Int32.reduceAdd, false_and, and_false, true_and, and_true, and_self, not_true_eq_false, not_false_eq_true, true_implies, false_implies, implies_true, ite_self, ne_eq, forall_eq, forall_const, if_false, if_true, ite_false, ite_true]
    exact h0 z
  · obtain ⟨a1, a2, a3, a4, a5, a6, a7, a8, a9, a10⟩ := hF
    have hC2 : CMF (sI M 306 F 0 (nI (f_p φ + 1))) := hC.2.2.2.2.2.1
    have hRC : CRU (sI M 306 F 0 (nI (f_p φ + 1))) σ := CRU_sm hC (sm_sI rfl (sm_refl _ _)) hC2
    simp (disch := omega) only [e_callV, e_callS, e_callW, e_goto, e_ci, e_cl, e_cd, e_null, e_iadd, e_isub, e_imul, e_iand, e_ishr, e_idiv, e_irem, e_ineg, e_ladd, e_lsub, e_lor, e_land, e_ldiv, e_lshl, e_lshr, e_i2l, e_l2i, e_i2b, e_i2d, e_l2d, e_d2l, e_dneg, e_dadd, e_dmul, e_ddiv, e_lcmp, e_dcmpl, e_dcmpg, e_dup, e_dup2, e_pop, e_ild, e_lld, e_dld, e_ald, e_ist, e_lst, e_dst, e_ast, e_iinc, e_if_eq, e_icmp_eq, e_if_lt, e_icmp_lt, e_if_ge, e_icmp_ge, e_if_gt, e_icmp_gt, e_if_le, e_icmp_le, e_if_ne, e_icmp_ne, e_ifnull, e_ifnonnull, e_acmp_ne, e_getI, e_getL, e_getR, e_putI, e_putZ, e_putL, e_putR, e_iald, e_iast, e_zald, e_zast, e_lald, e_last, e_dald, e_dast, e_aald, e_aast, e_new, e_newa, e_newq, e_ret0, e_iret, e_zret, e_lret, e_aret, e_obj, e_acpL, e_acpD, e_max, e_d2b, e_b2d, e_sld, e_slen, e_lawret, e_place, e_tsw, xsw, xKn_i, xKn_0, if_false, if_true, eq_self, Nat.zero_add, exists_eq', exists_eq, true_or, or_true, List.length_cons, List.length_nil, Nat.le_refl, Nat.zero_le, Nat.sub_zero, xent, xcat, List.lookup, beq_self_eq_true, Nat.reduceBEq, xst1, xst2, List.filter, Bool.not_true, Bool.not_false, Bool.and_true, Bool.true_and, Bool.and_false, Bool.false_and, xsum, List.map, List.sum_cons, List.sum_nil, List.drop, List.take, List.reverse, List.reverseAux, Option.toList, List.cons_append, List.nil_append, Nat.reduceAdd, Nat.reduceSub, Nat.reduceLeDiff, Nat.reduceEqDiff, true_and, and_true, exists_eq_left', Option.some.injEq, exists_eq_left, List.getElem?_cons_zero, List.getElem?_cons_succ, Prod.mk.injEq, Sum.inr.injEq, gI_sI, gI_sL, gI_sD, gI_sR, gI_nO, gI_cL, gI_cD, gL_sI, gL_sL, gL_sD, gL_sR, gL_nO, gL_cL, gL_cD, gD_sI, gD_sL, gD_sD, gD_sR, gD_nO, gD_cL, gD_cD, gR_sI, gR_sL, gR_sD, gR_sR, gR_nO, gR_cL, gR_cD, gV_sI, gV_sL, gV_sD, gV_sR, gV_nO, gV_cL, gV_cD, gV_nO_mono, y_ltI, y_leI, y_eqI, y_ltl, y_lel, y_eql, y_lle, y_llt, y_leq, y_m1, y_neg, y_nn, y_cl, y_in, y_add, y_addl, y_ladd, y_mul, y_mull, y_lmul, y_subl, y_sub, y_am1, y_divl, y_reml, y_10, y_mod, reduceCtorEq, Nat.reduceDiv, Nat.reduceMul, Nat.reduceMod, Nat.reduceLT, Nat.reduceEqDiff, Int32.reduceLT, Int32.reduceLE, Int32.reduceSub, Int32.reduceAdd, false_and, and_false, true_and, and_true, and_self, not_true_eq_false, not_false_eq_true, true_implies, false_implies, implies_true, ite_self, ne_eq, forall_eq, forall_const, if_false, if_true, ite_false, ite_true, a7, hC.1.2.2.2.2.2.2.1]
    refine ⟨mc, ms, Nat.le_refl _, Nat.le_refl _, ?_⟩
    refine v_X2_keep hC2 (fun y => hr z y) ?_
    simp (disch := omega) only [e_callV, e_callS, e_callW, e_goto, e_ci, e_cl, e_cd, e_null, e_iadd, e_isub, e_imul, e_iand, e_ishr, e_idiv, e_irem, e_ineg, e_ladd, e_lsub, e_lor, e_land, e_ldiv, e_lshl, e_lshr, e_i2l, e_l2i, e_i2b, e_i2d, e_l2d, e_d2l, e_dneg, e_dadd, e_dmul, e_ddiv, e_lcmp, e_dcmpl, e_dcmpg, e_dup, e_dup2, e_pop, e_ild, e_lld, e_dld, e_ald, e_ist, e_lst, e_dst, e_ast, e_iinc, e_if_eq, e_icmp_eq, e_if_lt, e_icmp_lt, e_if_ge, e_icmp_ge, e_if_gt, e_icmp_gt, e_if_le, e_icmp_le, e_if_ne, e_icmp_ne, e_ifnull, e_ifnonnull, e_acmp_ne, e_getI, e_getL, e_getR, e_putI, e_putZ, e_putL, e_putR, e_iald, e_iast, e_zald, e_zast, e_lald, e_last, e_dald, e_dast, e_aald, e_aast, e_new, e_newa, e_newq, e_ret0, e_iret, e_zret, e_lret, e_aret, e_obj, e_acpL, e_acpD, e_max, e_d2b, e_b2d, e_sld, e_slen, e_lawret, e_place, e_tsw, xsw, xKn_i, xKn_0, if_false, if_true, eq_self, Nat.zero_add, exists_eq', exists_eq, true_or, or_true, List.length_cons, List.length_nil, Nat.le_refl, Nat.zero_le, Nat.sub_zero, xent, xcat, List.lookup, beq_self_eq_true, Nat.reduceBEq, xst1, xst2, List.filter, Bool.not_true, Bool.not_false, Bool.and_true, Bool.true_and, Bool.and_false, Bool.false_and, xsum, List.map, List.sum_cons, List.sum_nil, List.drop, List.take, List.reverse, List.reverseAux, Option.toList, List.cons_append, List.nil_append, Nat.reduceAdd, Nat.reduceSub, Nat.reduceLeDiff, Nat.reduceEqDiff, true_and, and_true, exists_eq_left', Option.some.injEq, exists_eq_left, List.getElem?_cons_zero, List.getElem?_cons_succ, Prod.mk.injEq, Sum.inr.injEq, gI_sI, gI_sL, gI_sD, gI_sR, gI_nO, gI_cL, gI_cD, gL_sI, gL_sL, gL_sD, gL_sR, gL_nO, gL_cL, gL_cD, gD_sI, gD_sL, gD_sD, gD_sR, gD_nO, gD_cL, gD_cD, gR_sI, gR_sL, gR_sD, gR_sR, gR_nO, gR_cL, gR_cD, gV_sI, gV_sL, gV_sD, gV_sR, gV_nO, gV_cL, gV_cD, gV_nO_mono, y_ltI, y_leI, y_eqI, y_ltl, y_lel, y_eql, y_lle, y_llt, y_leq, y_m1, y_neg, y_nn, y_cl, y_in, y_add, y_addl, y_ladd, y_mul, y_mull, y_lmul, y_subl, y_sub, y_am1, y_divl, y_reml, y_10, y_mod, reduceCtorEq, Nat.reduceDiv, Nat.reduceMul, Nat.reduceMod, Nat.reduceLT, Nat.reduceEqDiff, Int32.reduceLT, Int32.reduceLE, Int32.reduceSub, Int32.reduceAdd, false_and, and_false, true_and, and_true, and_self, not_true_eq_false, not_false_eq_true, true_implies, false_implies, implies_true, ite_self, ne_eq, forall_eq, forall_const, if_false, if_true, ite_false, ite_true]
    refine h1 z ?_
    have sm := mkp_sm (sI M 306 F 0 (nI (f_p φ + 1))) F
    have et : f_try σ (f_keep (f_step φ) (z_row σ)) = true := by
      unfold f_try
      rw [decide_eq_true_iff]
      exact ⟨Nat.succ_pos _, z, hk⟩
    refine ⟨?_, ?_, ?_, ?_, ?_, ?_, ?_, .inr ⟨f_p φ + 1, ?_, Nat.le_refl _⟩, ?_, fun _ => ⟨?_, ?_⟩⟩
    · rw [sm_R sm rfl]; exact a1
    · rw [sm_I sm rfl]; simp only [gI_sI, gI_sL, gI_sD, gI_sR, gI_nO, gI_cL, gI_cD, gL_sI, gL_sL, gL_sD, gL_sR, gL_nO, gL_cL, gL_cD, gD_sI, gD_sL, gD_sD, gD_sR, gD_nO, gD_cL, gD_cD, gR_sI, gR_sL, gR_sD, gR_sR, gR_nO, gR_cL, gR_cD, gV_sI, gV_sL, gV_sD, gV_sR, gV_nO, gV_cL, gV_cD, gV_nO_mono, reduceCtorEq, Nat.reduceDiv, Nat.reduceMul, Nat.reduceMod, Nat.reduceLT, Nat.reduceEqDiff, Int32.reduceLT, Int32.reduceLE, Int32.reduceSub, Int32.reduceAdd, false_and, and_false, true_and, and_true, and_self, not_true_eq_false, not_false_eq_true, true_implies, false_implies, implies_true, ite_self, ne_eq, forall_eq, forall_const, if_false, if_true, ite_false, ite_true]; exact a2
    · rw [sm_R sm rfl]; exact a3
    · rw [sm_R sm rfl]; exact a4
    · rw [sm_R sm rfl]; exact a5
    · rw [sm_I sm rfl]; simp only [gI_sI, gI_sL, gI_sD, gI_sR, gI_nO, gI_cL, gI_cD, gL_sI, gL_sL, gL_sD, gL_sR, gL_nO, gL_cL, gL_cD, gD_sI, gD_sL, gD_sD, gD_sR, gD_nO, gD_cL, gD_cD, gR_sI, gR_sL, gR_sD, gR_sR, gR_nO, gR_cL, gR_cD, gV_sI, gV_sL, gV_sD, gV_sR, gV_nO, gV_cL, gV_cD, gV_nO_mono, reduceCtorEq, Nat.reduceDiv, Nat.reduceMul, Nat.reduceMod, Nat.reduceLT, Nat.reduceEqDiff, Int32.reduceLT, Int32.reduceLE, Int32.reduceSub, Int32.reduceAdd, false_and, and_false, true_and, and_true, and_self, not_true_eq_false, not_false_eq_true, true_implies, false_implies, implies_true, ite_self, ne_eq, forall_eq, forall_const, if_false, if_true, ite_false, ite_true]; exact a6
    · rw [sm_I sm rfl]; simp only [gI_sI, gI_sL, gI_sD, gI_sR, gI_nO, gI_cL, gI_cD, gL_sI, gL_sL, gL_sD, gL_sR, gL_nO, gL_cL, gL_cD, gD_sI, gD_sL, gD_sD, gD_sR, gD_nO, gD_cL, gD_cD, gR_sI, gR_sL, gR_sD, gR_sR, gR_nO, gR_cL, gR_cD, gV_sI, gV_sL, gV_sD, gV_sR, gV_nO, gV_cL, gV_cD, gV_nO_mono, reduceCtorEq, Nat.reduceDiv, Nat.reduceMul, Nat.reduceMod, Nat.reduceLT, Nat.reduceEqDiff, Int32.reduceLT, Int32.reduceLE, Int32.reduceSub, Int32.reduceAdd, false_and, and_false, true_and, and_true, and_self, not_true_eq_false, not_false_eq_true, true_implies, false_implies, implies_true, ite_self, ne_eq, forall_eq, forall_const, if_false, if_true, ite_false, ite_true]; exact a7
    · rw [sm_I sm rfl]; simp only [gI_sI, gI_sL, gI_sD, gI_sR, gI_nO, gI_cL, gI_cD, gL_sI, gL_sL, gL_sD, gL_sR, gL_nO, gL_cL, gL_cD, gD_sI, gD_sL, gD_sD, gD_sR, gD_nO, gD_cL, gD_cD, gR_sI, gR_sL, gR_sD, gR_sR, gR_nO, gR_cL, gR_cD, gV_sI, gV_sL, gV_sD, gV_sR, gV_nO, gV_cL, gV_cD, gV_nO_mono, reduceCtorEq, Nat.reduceDiv, Nat.reduceMul, Nat.reduceMod, Nat.reduceLT, Nat.reduceEqDiff, Int32.reduceLT, Int32.reduceLE, Int32.reduceSub, Int32.reduceAdd, false_and, and_false, true_and, and_true, and_self, not_true_eq_false, not_false_eq_true, true_implies, false_implies, implies_true, ite_self, ne_eq, forall_eq, forall_const, if_false, if_true, ite_false, ite_true]
    · rw [et, sm_I sm rfl]
      simp only [gI_sI, gI_sL, gI_sD, gI_sR, gI_nO, gI_cL, gI_cD, gL_sI, gL_sL, gL_sD, gL_sR, gL_nO, gL_cL, gL_cD, gD_sI, gD_sL, gD_sD, gD_sR, gD_nO, gD_cL, gD_cD, gR_sI, gR_sL, gR_sD, gR_sR, gR_nO, gR_cL, gR_cD, gV_sI, gV_sL, gV_sD, gV_sR, gV_nO, gV_cL, gV_cD, gV_nO_mono, reduceCtorEq, Nat.reduceDiv, Nat.reduceMul, Nat.reduceMod, Nat.reduceLT, Nat.reduceEqDiff, Int32.reduceLT, Int32.reduceLE, Int32.reduceSub, Int32.reduceAdd, false_and, and_false, true_and, and_true, and_self, not_true_eq_false, not_false_eq_true, true_implies, false_implies, implies_true, ite_self, ne_eq, forall_eq, forall_const, if_false, if_true, ite_false, ite_true]
      exact ⟨fun _ => trivial, fun _ => rfl⟩
    · rw [mkp_307 hC2, if_pos rfl]
    · unfold mkp
      refine RWS_mcp ?_
      have sm0 : ∀ k, gL (mkp0 (sI M 306 F 0 (nI (f_p φ + 1))) F) 2200 0 k = gL M 2200 0 k ∧ gD (mkp0 (sI M 306 F 0 (nI (f_p φ + 1))) F) 2300 0 k = gD M 2300 0 k := by
        intro k
        unfold mkp0
        split
        · simp only [gI_sI, gI_sL, gI_sD, gI_sR, gI_nO, gI_cL, gI_cD, gL_sI, gL_sL, gL_sD, gL_sR, gL_nO, gL_cL, gL_cD, gD_sI, gD_sL, gD_sD, gD_sR, gD_nO, gD_cL, gD_cD, gR_sI, gR_sL, gR_sD, gR_sR, gR_nO, gR_cL, gR_cD, gV_sI, gV_sL, gV_sD, gV_sR, gV_nO, gV_cL, gV_cD, gV_nO_mono, reduceCtorEq, Nat.reduceDiv, Nat.reduceMul, Nat.reduceMod, Nat.reduceLT, Nat.reduceEqDiff, Int32.reduceLT, Int32.reduceLE, Int32.reduceSub, Int32.reduceAdd, false_and, and_false, true_and, and_true, and_self, not_true_eq_false, not_false_eq_true, true_implies, false_implies, implies_true, ite_self, ne_eq, forall_eq, forall_const, if_false, if_true, ite_false, ite_true]
        · exact ⟨rfl, rfl⟩
      intro k hk2
      rw [(sm0 k).1, (sm0 k).2]
      exact hC.2.2.2.2.2.2.1 k hk2
