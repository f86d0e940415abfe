/-! PURE: finding: the two sides. -/
theorem tof_acc (σ : SS) (n : Nat) : ∀ k l a, tof σ k l n a = (tof σ k l n none).or a := by
  intro k
  induction k with
  | zero => intro l a; simp [tof]
  | succ k ih =>
    intro l a
    simp only [tof]
    by_cases ht : z_the σ (30 * l + n) = true
    · simp [ht]
    · simp only [ht, if_false, Bool.false_eq_true]
      cases e : z_par σ l with
      | none =>
        dsimp only
        split <;> simp
      | some p =>
        dsimp only
        rw [ih p (if (z_off σ (30 * l + n)).isSome = true then some (30 * l + n) else a), ih p (if (z_off σ (30 * l + n)).isSome = true then some (30 * l + n) else none)]
        split
        · cases tof σ k p n none <;> rfl
        · cases tof σ k p n none <;> rfl
theorem tof_fuel {σ : SS} (hI : IL σ) (n : Nat) : ∀ k m l a, l < k → l < m → tof σ k l n a = tof σ m l n a := by
  intro k
  induction k with
  | zero => intro m l a h; omega
  | succ k ih =>
    intro m l a h1 h2
    obtain ⟨m, rfl⟩ : ∃ q, m = q + 1 := ⟨m - 1, by omega⟩
    simp only [tof]
    cases e : z_par σ l with
    | none => rfl
    | some p =>
      have := par_lt hI e
      dsimp only
      rw [ih m p _ (by omega) (by omega)]
theorem tof_root {σ : SS} {l n : Nat} (ht : z_the σ (30 * l + n) = false) (h : z_par σ l = none) : tof σ 8 l n none = own σ l n := by
  rw [show (8 : Nat) = 7 + 1 from rfl, tof, ht, h]
  rfl
theorem tof_par {σ : SS} (hI : IL σ) {l n p : Nat} (ht : z_the σ (30 * l + n) = false) (h : z_par σ l = some p) : tof σ 8 l n none = (tof σ 8 p n none).or (own σ l n) := by
  have h1 := par_lt hI h
  have h2 := hI.2.1
  rw [show (8 : Nat) = 7 + 1 from rfl, tof, ht, h]
  show tof σ 7 p n _ = _
  rw [tof_fuel hI n 7 8 p _ (by omega) (by omega), tof_acc]
  rfl
theorem tof_the {σ : SS} {l n : Nat} (ht : z_the σ (30 * l + n) = true) : tof σ 8 l n none = some (30 * l + n) := by
  rw [show (8 : Nat) = 7 + 1 from rfl, tof, if_pos ht]
theorem doPart_ne1 {fnd : FND} {c j n : Nat} {s : Bool} {σ τ : SS} {r : Nat} (h : doPart fnd c s j n σ = some (τ, r)) : ¬ r = 1 := by
  unfold doPart at h
  cases e : fnd σ (c / 30) n with
  | none => rw [e] at h; cases h
  | some w =>
    obtain ⟨σ1, q⟩ := w
    rw [e] at h
    cases q with
    | inr q =>
      cases h
      split <;> omega
    | inl u =>
      dsimp only at h
      split at h
      · cases h
        omega
      · cases h
        unfold putF
        split
        · omega
        · split
          · omega
          · split <;> omega
theorem doFaces_ne1 {fnd : FND} {c f : Nat} : ∀ k j σ τ r, doFaces fnd c f k j σ = some (τ, r) → ¬ r = 1 := by
  intro k
  induction k with
  | zero => intro j σ τ r h; cases h; omega
  | succ k ih =>
    intro j σ τ r h
    rw [doFaces] at h
    cases e : doPart fnd c false j (z_fnm σ f j) σ with
    | none => rw [e] at h; cases h
    | some w =>
      obtain ⟨σ1, q⟩ := w
      rw [e] at h
      dsimp only at h
      split at h
      · exact ih _ _ _ _ h
      · cases h
        exact doPart_ne1 e
theorem mkF_ne1 {fnd : FND} {c : Nat} {σ τ : SS} {q : Nat} (h : mkF fnd c σ = some (τ, .inr q)) : ¬ q = 1 := by
  unfold mkF at h
  split at h
  · cases h
    unfold mkfail
    split
    · omega
    · split
      · omega
      · split <;> omega
  · cases e : doParts fnd c (filO σ c) (w_start σ c) with
    | none => rw [e] at h; cases h
    | some w =>
      obtain ⟨σ1, r⟩ := w
      rw [e] at h
      dsimp only at h
      split at h
      · cases h
      · cases h
        unfold doParts at e
        cases e2 : doSup fnd c (filO σ c) (w_start σ c) with
        | none => rw [e2] at e; cases e
        | some w =>
          obtain ⟨σ2, r2⟩ := w
          rw [e2] at e
          dsimp only at e
          split at e
          · exact doFaces_ne1 _ _ _ _ _ e
          · cases e
            unfold doSup at e2
            split at e2
            · cases e2
              omega
            · exact doPart_ne1 e2
/-- what is found where a class is made at loader l alone -/
def atOwn (fnd : FND) (σ : SS) (c : Nat) : Option (SS × (Nat ⊕ Nat)) := match z_off σ c with
  | none => some (σ, .inr 1)
  | some _ => mkF fnd c σ
theorem rf_own {l : Launch} {D : DX} {b0 : Nat} {post : XM → Option XV → Prop} {X : Nat → XK} {x y z : Int32} (hX : CLX9_findFrom l D b0 X post) {fnd : FND} {B : Nat} (hfd : FRf X x y z fnd B) (hfs : FSp fnd) {σ τ : SS} {c F : Nat} {r : Nat ⊕ Nat} {M : XM} {tl : List (Nat × XV)} (h : atOwn fnd σ c = some (τ, r)) (hK : RS M σ (F + 1)) (hI : II σ) (hc : c / 30 < z_nl σ) (ht : z_the σ c = false) (hF : F + 1 + B ≤ 2400) (h2 : gI M 4200 0 F = nI c) (h3 : gI M 4300 0 F = nI 2) (hT : TL tl) (hR : RET X x y z F M τ r) : X 12 (tl ++ rbase x y z) [] M 0 0 := by
  unfold atOwn at h
  cases ho : z_off σ c with
  | none =>
    rw [ho] at h
    cases h
    refine rf_head hX hT hK.1.1 (by omega) (by omega) hK.2 h2 h3 (fun z => by omega) (fun z => by omega) (fun _ => hX.2.2.2.2.1 _ _ _ _ _ ?_) (fun z => by omega) (fun z => by omega)
    simp (disch := omega) only [e_callV, e_callS, e_callW, e_goto, e_ci, e_cl, e_cd, e_null, e_iadd, e_isub, e_imul, e_iand, e_ishr, e_idiv, e_irem, e_ineg, e_ladd, e_lsub, e_lor, e_land, e_ldiv, e_lshl, e_lshr, e_i2l, e_l2i, e_i2b, e_i2d, e_l2d, e_d2l, e_dneg, e_dadd, e_dmul, e_ddiv, e_lcmp, e_dcmpl, e_dcmpg, e_dup, e_dup2, e_pop, e_ild, e_lld, e_dld, e_ald, e_ist, e_lst, e_dst, e_ast, e_iinc, e_if_eq, e_icmp_eq, e_if_lt, e_icmp_lt, e_if_ge, e_icmp_ge, e_if_gt, e_icmp_gt, e_if_le, e_icmp_le, e_if_ne, e_icmp_ne, e_ifnull, e_ifnonnull, e_acmp_ne, e_getI, e_getL, e_getR, e_putI, e_putZ, e_putL, e_putR, e_iald, e_iast, e_zald, e_zast, e_lald, e_last, e_dald, e_dast, e_aald, e_aast, e_new, e_newa, e_newq, e_ret0, e_iret, e_zret, e_lret, e_aret, e_obj, e_acpL, e_acpD, e_max, e_d2b, e_b2d, e_sld, e_slen, e_lawret, e_place, e_tsw, xsw, xKn_i, xKn_0, if_false, if_true, eq_self, Nat.zero_add, exists_eq', exists_eq, true_or, or_true, List.length_cons, List.length_nil, Nat.le_refl, Nat.zero_le, Nat.sub_zero, xent, xcat, List.lookup, beq_self_eq_true, Nat.reduceBEq, xst1, xst2, List.filter, Bool.not_true, Bool.not_false, Bool.and_true, Bool.true_and, Bool.and_false, Bool.false_and, xsum, List.map, List.sum_cons, List.sum_nil, List.drop, List.take, List.reverse, List.reverseAux, Option.toList, List.cons_append, List.nil_append, Nat.reduceAdd, Nat.reduceSub, Nat.reduceLeDiff, Nat.reduceEqDiff, true_and, and_true, exists_eq_left', Option.some.injEq, exists_eq_left, List.getElem?_cons_zero, List.getElem?_cons_succ, Prod.mk.injEq, Sum.inr.injEq, gI_sI, gI_sL, gI_sD, gI_sR, gI_nO, gI_cL, gI_cD, gL_sI, gL_sL, gL_sD, gL_sR, gL_nO, gL_cL, gL_cD, gD_sI, gD_sL, gD_sD, gD_sR, gD_nO, gD_cL, gD_cD, gR_sI, gR_sL, gR_sD, gR_sR, gR_nO, gR_cL, gR_cD, gV_sI, gV_sL, gV_sD, gV_sR, gV_nO, gV_cL, gV_cD, gV_nO_mono, y_ltI, y_leI, y_eqI, y_ltl, y_lel, y_eql, y_lle, y_llt, y_leq, y_m1, y_neg, y_nn, y_cl, y_in, y_add, y_addl, y_ladd, y_mul, y_mull, y_lmul, y_subl, y_sub, y_am1, y_divl, y_reml, y_10, y_mod, reduceCtorEq, Nat.reduceDiv, Nat.reduceMul, Nat.reduceMod, Nat.reduceLT, Nat.reduceEqDiff, Int32.reduceLT, Int32.reduceLE, Int32.reduceSub, Int32.reduceAdd, false_and, and_false, true_and, and_true, and_self, not_true_eq_false, not_false_eq_true, true_implies, false_implies, implies_true, ite_self, ne_eq, forall_eq, forall_const, if_false, if_true, ite_false, ite_true, BX9_findFrom_113]
    refine v_X9_begin hK.1 hI (by omega) hc hK.2 (fun z => ?_) (fun g e1 => by rw [ho] at e1; cases e1) (fun g e1 => by rw [ho] at e1; cases e1) (fun g n e1 => by rw [ho] at e1; cases e1)
    simp (disch := omega) only [e_callV, e_callS, e_callW, e_goto, e_ci, e_cl, e_cd, e_null, e_iadd, e_isub, e_imul, e_iand, e_ishr, e_idiv, e_irem, e_ineg, e_ladd, e_lsub, e_lor, e_land, e_ldiv, e_lshl, e_lshr, e_i2l, e_l2i, e_i2b, e_i2d, e_l2d, e_d2l, e_dneg, e_dadd, e_dmul, e_ddiv, e_lcmp, e_dcmpl, e_dcmpg, e_dup, e_dup2, e_pop, e_ild, e_lld, e_dld, e_ald, e_ist, e_lst, e_dst, e_ast, e_iinc, e_if_eq, e_icmp_eq, e_if_lt, e_icmp_lt, e_if_ge, e_icmp_ge, e_if_gt, e_icmp_gt, e_if_le, e_icmp_le, e_if_ne, e_icmp_ne, e_ifnull, e_ifnonnull, e_acmp_ne, e_getI, e_getL, e_getR, e_putI, e_putZ, e_putL, e_putR, e_iald, e_iast, e_zald, e_zast, e_lald, e_last, e_dald, e_dast, e_aald, e_aast, e_new, e_newa, e_newq, e_ret0, e_iret, e_zret, e_lret, e_aret, e_obj, e_acpL, e_acpD, e_max, e_d2b, e_b2d, e_sld, e_slen, e_lawret, e_place, e_tsw, xsw, xKn_i, xKn_0, if_false, if_true, eq_self, Nat.zero_add, exists_eq', exists_eq, true_or, or_true, List.length_cons, List.length_nil, Nat.le_refl, Nat.zero_le, Nat.sub_zero, xent, xcat, List.lookup, beq_self_eq_true, Nat.reduceBEq, xst1, xst2, List.filter, Bool.not_true, Bool.not_false, Bool.and_true, Bool.true_and, Bool.and_false, Bool.false_and, xsum, List.map, List.sum_cons, List.sum_nil, List.drop, List.take, List.reverse, List.reverseAux, Option.toList, List.cons_append, List.nil_append, Nat.reduceAdd, Nat.reduceSub, Nat.reduceLeDiff, Nat.reduceEqDiff, true_and, and_true, exists_eq_left', Option.some.injEq, exists_eq_left, List.getElem?_cons_zero, List.getElem?_cons_succ, Prod.mk.injEq, Sum.inr.injEq, gI_sI, gI_sL, gI_sD, gI_sR, gI_nO, gI_cL, gI_cD, gL_sI, gL_sL, gL_sD, gL_sR, gL_nO, gL_cL, gL_cD, gD_sI, gD_sL, gD_sD, gD_sR, gD_nO, gD_cL, gD_cD, gR_sI, gR_sL, gR_sD, gR_sR, gR_nO, gR_cL, gR_cD, gV_sI, gV_sL, gV_sD, gV_sR, gV_nO, gV_cL, gV_cD, gV_nO_mono, y_ltI, y_leI, y_eqI, y_ltl, y_lel, y_eql, y_lle, y_llt, y_leq, y_m1, y_neg, y_nn, y_cl, y_in, y_add, y_addl, y_ladd, y_mul, y_mull, y_lmul, y_subl, y_sub, y_am1, y_divl, y_reml, y_10, y_mod, reduceCtorEq, Nat.reduceDiv, Nat.reduceMul, Nat.reduceMod, Nat.reduceLT, Nat.reduceEqDiff, Int32.reduceLT, Int32.reduceLE, Int32.reduceSub, Int32.reduceAdd, false_and, and_false, true_and, and_true, and_self, not_true_eq_false, not_false_eq_true, true_implies, false_implies, implies_true, ite_self, ne_eq, forall_eq, forall_const, if_false, if_true, ite_false, ite_true]
    exact hR _ _ (TL2 _ _) (RS_give hK.1) (Kp_give (Kp_refl _ _)) (give_1025 _ _ _)
  | some f =>
    rw [ho] at h
    exact rf_make hX hfd hfs h hK hI hc ho ht hF h2 h3 hT hR
theorem rf_found {l : Launch} {D : DX} {b0 : Nat} {post : XM → Option XV → Prop} {X : Nat → XK} {x y z : Int32} (hX : CLX9_findFrom l D b0 X post) : ∀ k, FRf X x y z (fd k) (10 * k) := by
  intro k
  induction k with
  | zero => intro σ lo n τ r M F tl h; cases h
  | succ k ih =>
    have go : ∀ lo σ n τ r M F tl, fd (k + 1) σ lo n = some (τ, r) → RS M σ (F + 1) → II σ → lo < z_nl σ → n < 30 → F + lo + 2 + 10 * k ≤ 2400 → gI M 4200 0 F = nI (30 * lo + n) → gI M 4300 0 F = nI 0 → TL tl → RET X x y z F M τ r → X 12 (tl ++ rbase x y z) [] M 0 0 := by
      intro lo
      induction lo using Nat.strongRecOn with
      | ind lo ihl =>
        intro σ n τ r M F tl h hK hI hl hn hF h2 h3 hT hR
        have hn8 := hI.2.1.2.1
        have ed : (30 * lo + n) / 30 = lo := by omega
        have em : (30 * lo + n) % 30 = n := by omega
        refine rf_head hX hT hK.1.1 (by omega) (by omega) hK.2 h2 h3 (fun _ => hX.2.2.1 _ _ _ _ _ ?_) (fun z => by omega) (fun z => by omega) (fun z => by omega) (fun z => by omega)
        simp (disch := omega) only [e_callV, e_callS, e_callW, e_goto, e_ci, e_cl, e_cd, e_null, e_iadd, e_isub, e_imul, e_iand, e_ishr, e_idiv, e_irem, e_ineg, e_ladd, e_lsub, e_lor, e_land, e_ldiv, e_lshl, e_lshr, e_i2l, e_l2i, e_i2b, e_i2d, e_l2d, e_d2l, e_dneg, e_dadd, e_dmul, e_ddiv, e_lcmp, e_dcmpl, e_dcmpg, e_dup, e_dup2, e_pop, e_ild, e_lld, e_dld, e_ald, e_ist, e_lst, e_dst, e_ast, e_iinc, e_if_eq, e_icmp_eq, e_if_lt, e_icmp_lt, e_if_ge, e_icmp_ge, e_if_gt, e_icmp_gt, e_if_le, e_icmp_le, e_if_ne, e_icmp_ne, e_ifnull, e_ifnonnull, e_acmp_ne, e_getI, e_getL, e_getR, e_putI, e_putZ, e_putL, e_putR, e_iald, e_iast, e_zald, e_zast, e_lald, e_last, e_dald, e_dast, e_aald, e_aast, e_new, e_newa, e_newq, e_ret0, e_iret, e_zret, e_lret, e_aret, e_obj, e_acpL, e_acpD, e_max, e_d2b, e_b2d, e_sld, e_slen, e_lawret, e_place, e_tsw, xsw, xKn_i, xKn_0, if_false, if_true, eq_self, Nat.zero_add, exists_eq', exists_eq, true_or, or_true, List.length_cons, List.length_nil, Nat.le_refl, Nat.zero_le, Nat.sub_zero, xent, xcat, List.lookup, beq_self_eq_true, Nat.reduceBEq, xst1, xst2, List.filter, Bool.not_true, Bool.not_false, Bool.and_true, Bool.true_and, Bool.and_false, Bool.false_and, xsum, List.map, List.sum_cons, List.sum_nil, List.drop, List.take, List.reverse, List.reverseAux, Option.toList, List.cons_append, List.nil_append, Nat.reduceAdd, Nat.reduceSub, Nat.reduceLeDiff, Nat.reduceEqDiff, true_and, and_true, exists_eq_left', Option.some.injEq, exists_eq_left, List.getElem?_cons_zero, List.getElem?_cons_succ, Prod.mk.injEq, Sum.inr.injEq, gI_sI, gI_sL, gI_sD, gI_sR, gI_nO, gI_cL, gI_cD, gL_sI, gL_sL, gL_sD, gL_sR, gL_nO, gL_cL, gL_cD, gD_sI, gD_sL, gD_sD, gD_sR, gD_nO, gD_cL, gD_cD, gR_sI, gR_sL, gR_sD, gR_sR, gR_nO, gR_cL, gR_cD, gV_sI, gV_sL, gV_sD, gV_sR, gV_nO, gV_cL, gV_cD, gV_nO_mono, y_ltI, y_leI, y_eqI, y_ltl, y_lel, y_eql, y_lle, y_llt, y_leq, y_m1, y_neg, y_nn, y_cl, y_in, y_add, y_addl, y_ladd, y_mul, y_mull, y_lmul, y_subl, y_sub, y_am1, y_divl, y_reml, y_10, y_mod, reduceCtorEq, Nat.reduceDiv, Nat.reduceMul, Nat.reduceMod, Nat.reduceLT, Nat.reduceEqDiff, Int32.reduceLT, Int32.reduceLE, Int32.reduceSub, Int32.reduceAdd, false_and, and_false, true_and, and_true, and_self, not_true_eq_false, not_false_eq_true, true_implies, false_implies, implies_true, ite_self, ne_eq, forall_eq, forall_const, if_false, if_true, ite_false, ite_true, BX9_findFrom_72]
        rw [fd] at h
        have stage2 : ∀ M2 tl2, RS M2 σ (F + 1) → Kp F M M2 → z_the σ (30 * lo + n) = false → TL tl2 → gI M2 4200 0 F = nI (30 * lo + n) → gI M2 4300 0 F = nI 2 → tof σ 8 lo n none = own σ lo n → X 12 (tl2 ++ rbase x y z) [] M2 0 0 := by
          intro M2 tl2 hs hk ht ht2 g2 g3 e
          refine rf_own hX ih (fd_ok k) (τ := τ) (r := r) ?_ hs hI (by omega) ht (by omega) g2 g3 ht2 (RET_Kp hR hk)
          rw [e] at h
          unfold own at h
          unfold atOwn
          cases ho : z_off σ (30 * lo + n) with
          | none =>
            rw [ho] at h
            simpa using h
          | some f =>
            rw [ho] at h
            simpa [ht] using h
        refine v_X9_first hK.1 hI.2.1 (by omega) (by omega) hK.2 (fun ht => ?_) (fun ht hp => ?_) (fun p ht hp => ?_)
        · rw [tof_the ht] at h
          dsimp only at h
          rw [if_pos ht] at h
          cases h
          simp (disch := omega) only [e_callV, e_callS, e_callW, e_goto, e_ci, e_cl, e_cd, e_null, e_iadd, e_isub, e_imul, e_iand, e_ishr, e_idiv, e_irem, e_ineg, e_ladd, e_lsub, e_lor, e_land, e_ldiv, e_lshl, e_lshr, e_i2l, e_l2i, e_i2b, e_i2d, e_l2d, e_d2l, e_dneg, e_dadd, e_dmul, e_ddiv, e_lcmp, e_dcmpl, e_dcmpg, e_dup, e_dup2, e_pop, e_ild, e_lld, e_dld, e_ald, e_ist, e_lst, e_dst, e_ast, e_iinc, e_if_eq, e_icmp_eq, e_if_lt, e_icmp_lt, e_if_ge, e_icmp_ge, e_if_gt, e_icmp_gt, e_if_le, e_icmp_le, e_if_ne, e_icmp_ne, e_ifnull, e_ifnonnull, e_acmp_ne, e_getI, e_getL, e_getR, e_putI, e_putZ, e_putL, e_putR, e_iald, e_iast, e_zald, e_zast, e_lald, e_last, e_dald, e_dast, e_aald, e_aast, e_new, e_newa, e_newq, e_ret0, e_iret, e_zret, e_lret, e_aret, e_obj, e_acpL, e_acpD, e_max, e_d2b, e_b2d, e_sld, e_slen, e_lawret, e_place, e_tsw, xsw, xKn_i, xKn_0, if_false, if_true, eq_self, Nat.zero_add, exists_eq', exists_eq, true_or, or_true, List.length_cons, List.length_nil, Nat.le_refl, Nat.zero_le, Nat.sub_zero, xent, xcat, List.lookup, beq_self_eq_true, Nat.reduceBEq, xst1, xst2, List.filter, Bool.not_true, Bool.not_false, Bool.and_true, Bool.true_and, Bool.and_false, Bool.false_and, xsum, List.map, List.sum_cons, List.sum_nil, List.drop, List.take, List.reverse, List.reverseAux, Option.toList, List.cons_append, List.nil_append, Nat.reduceAdd, Nat.reduceSub, Nat.reduceLeDiff, Nat.reduceEqDiff, true_and, and_true, exists_eq_left', Option.some.injEq, exists_eq_left, List.getElem?_cons_zero, List.getElem?_cons_succ, Prod.mk.injEq, Sum.inr.injEq, gI_sI, gI_sL, gI_sD, gI_sR, gI_nO, gI_cL, gI_cD, gL_sI, gL_sL, gL_sD, gL_sR, gL_nO, gL_cL, gL_cD, gD_sI, gD_sL, gD_sD, gD_sR, gD_nO, gD_cL, gD_cD, gR_sI, gR_sL, gR_sD, gR_sR, gR_nO, gR_cL, gR_cD, gV_sI, gV_sL, gV_sD, gV_sR, gV_nO, gV_cL, gV_cD, gV_nO_mono, y_ltI, y_leI, y_eqI, y_ltl, y_lel, y_eql, y_lle, y_llt, y_leq, y_m1, y_neg, y_nn, y_cl, y_in, y_add, y_addl, y_ladd, y_mul, y_mull, y_lmul, y_subl, y_sub, y_am1, y_divl, y_reml, y_10, y_mod, reduceCtorEq, Nat.reduceDiv, Nat.reduceMul, Nat.reduceMod, Nat.reduceLT, Nat.reduceEqDiff, Int32.reduceLT, Int32.reduceLE, Int32.reduceSub, Int32.reduceAdd, false_and, and_false, true_and, and_true, and_self, not_true_eq_false, not_false_eq_true, true_implies, false_implies, implies_true, ite_self, ne_eq, forall_eq, forall_const, if_false, if_true, ite_false, ite_true]
          exact hR _ _ (TL2 _ _) (RS_give hK.1) (Kp_give (Kp_refl _ _)) (give_1025 _ _ _)
        · rw [ed] at hp
          simp (disch := omega) only [e_callV, e_callS, e_callW, e_goto, e_ci, e_cl, e_cd, e_null, e_iadd, e_isub, e_imul, e_iand, e_ishr, e_idiv, e_irem, e_ineg, e_ladd, e_lsub, e_lor, e_land, e_ldiv, e_lshl, e_lshr, e_i2l, e_l2i, e_i2b, e_i2d, e_l2d, e_d2l, e_dneg, e_dadd, e_dmul, e_ddiv, e_lcmp, e_dcmpl, e_dcmpg, e_dup, e_dup2, e_pop, e_ild, e_lld, e_dld, e_ald, e_ist, e_lst, e_dst, e_ast, e_iinc, e_if_eq, e_icmp_eq, e_if_lt, e_icmp_lt, e_if_ge, e_icmp_ge, e_if_gt, e_icmp_gt, e_if_le, e_icmp_le, e_if_ne, e_icmp_ne, e_ifnull, e_ifnonnull, e_acmp_ne, e_getI, e_getL, e_getR, e_putI, e_putZ, e_putL, e_putR, e_iald, e_iast, e_zald, e_zast, e_lald, e_last, e_dald, e_dast, e_aald, e_aast, e_new, e_newa, e_newq, e_ret0, e_iret, e_zret, e_lret, e_aret, e_obj, e_acpL, e_acpD, e_max, e_d2b, e_b2d, e_sld, e_slen, e_lawret, e_place, e_tsw, xsw, xKn_i, xKn_0, if_false, if_true, eq_self, Nat.zero_add, exists_eq', exists_eq, true_or, or_true, List.length_cons, List.length_nil, Nat.le_refl, Nat.zero_le, Nat.sub_zero, xent, xcat, List.lookup, beq_self_eq_true, Nat.reduceBEq, xst1, xst2, List.filter, Bool.not_true, Bool.not_false, Bool.and_true, Bool.true_and, Bool.and_false, Bool.false_and, xsum, List.map, List.sum_cons, List.sum_nil, List.drop, List.take, List.reverse, List.reverseAux, Option.toList, List.cons_append, List.nil_append, Nat.reduceAdd, Nat.reduceSub, Nat.reduceLeDiff, Nat.reduceEqDiff, true_and, and_true, exists_eq_left', Option.some.injEq, exists_eq_left, List.getElem?_cons_zero, List.getElem?_cons_succ, Prod.mk.injEq, Sum.inr.injEq, gI_sI, gI_sL, gI_sD, gI_sR, gI_nO, gI_cL, gI_cD, gL_sI, gL_sL, gL_sD, gL_sR, gL_nO, gL_cL, gL_cD, gD_sI, gD_sL, gD_sD, gD_sR, gD_nO, gD_cL, gD_cD, gR_sI, gR_sL, gR_sD, gR_sR, gR_nO, gR_cL, gR_cD, gV_sI, gV_sL, gV_sD, gV_sR, gV_nO, gV_cL, gV_cD, gV_nO_mono, y_ltI, y_leI, y_eqI, y_ltl, y_lel, y_eql, y_lle, y_llt, y_leq, y_m1, y_neg, y_nn, y_cl, y_in, y_add, y_addl, y_ladd, y_mul, y_mull, y_lmul, y_subl, y_sub, y_am1, y_divl, y_reml, y_10, y_mod, reduceCtorEq, Nat.reduceDiv, Nat.reduceMul, Nat.reduceMod, Nat.reduceLT, Nat.reduceEqDiff, Int32.reduceLT, Int32.reduceLE, Int32.reduceSub, Int32.reduceAdd, false_and, and_false, true_and, and_true, and_self, not_true_eq_false, not_false_eq_true, true_implies, false_implies, implies_true, ite_self, ne_eq, forall_eq, forall_const, if_false, if_true, ite_false, ite_true]
          exact stage2 _ [(5, _), (4, _)] ⟨RK_4300 hK.1, by simp only [gI_sI, gI_sL, gI_sD, gI_sR, gI_nO, gI_cL, gI_cD, gL_sI, gL_sL, gL_sD, gL_sR, gL_nO, gL_cL, gL_cD, gD_sI, gD_sL, gD_sD, gD_sR, gD_nO, gD_cL, gD_cD, gR_sI, gR_sL, gR_sD, gR_sR, gR_nO, gR_cL, gR_cD, gV_sI, gV_sL, gV_sD, gV_sR, gV_nO, gV_cL, gV_cD, gV_nO_mono, reduceCtorEq, Nat.reduceDiv, Nat.reduceMul, Nat.reduceMod, Nat.reduceLT, Nat.reduceEqDiff, Int32.reduceLT, Int32.reduceLE, Int32.reduceSub, Int32.reduceAdd, false_and, and_false, true_and, and_true, and_self, not_true_eq_false, not_false_eq_true, true_implies, false_implies, implies_true, ite_self, ne_eq, forall_eq, forall_const, if_false, if_true, ite_false, ite_true]; exact hK.2⟩ (Kp_sI (Kp_refl _ _) rfl (fun _ => Nat.le_refl _)) ht (TL2 _ _) (by simp only [gI_sI, gI_sL, gI_sD, gI_sR, gI_nO, gI_cL, gI_cD, gL_sI, gL_sL, gL_sD, gL_sR, gL_nO, gL_cL, gL_cD, gD_sI, gD_sL, gD_sD, gD_sR, gD_nO, gD_cL, gD_cD, gR_sI, gR_sL, gR_sD, gR_sR, gR_nO, gR_cL, gR_cD, gV_sI, gV_sL, gV_sD, gV_sR, gV_nO, gV_cL, gV_cD, gV_nO_mono, reduceCtorEq, Nat.reduceDiv, Nat.reduceMul, Nat.reduceMod, Nat.reduceLT, Nat.reduceEqDiff, Int32.reduceLT, Int32.reduceLE, Int32.reduceSub, Int32.reduceAdd, false_and, and_false, true_and, and_true, and_self, not_true_eq_false, not_false_eq_true, true_implies, false_implies, implies_true, ite_self, ne_eq, forall_eq, forall_const, if_false, if_true, ite_false, ite_true]; exact h2) (by simp only [gI_sI, gI_sL, gI_sD, gI_sR, gI_nO, gI_cL, gI_cD, gL_sI, gL_sL, gL_sD, gL_sR, gL_nO, gL_cL, gL_cD, gD_sI, gD_sL, gD_sD, gD_sR, gD_nO, gD_cL, gD_cD, gR_sI, gR_sL, gR_sD, gR_sR, gR_nO, gR_cL, gR_cD, gV_sI, gV_sL, gV_sD, gV_sR, gV_nO, gV_cL, gV_cD, gV_nO_mono, reduceCtorEq, Nat.reduceDiv, Nat.reduceMul, Nat.reduceMod, Nat.reduceLT, Nat.reduceEqDiff, Int32.reduceLT, Int32.reduceLE, Int32.reduceSub, Int32.reduceAdd, false_and, and_false, true_and, and_true, and_self, not_true_eq_false, not_false_eq_true, true_implies, false_implies, implies_true, ite_self, ne_eq, forall_eq, forall_const, if_false, if_true, ite_false, ite_true]; rfl) (tof_root ht hp)
        · rw [ed] at hp
          rw [em]
          have hpl := par_lt hI.2.1 hp
          have et := tof_par hI.2.1 ht hp
          simp (disch := omega) only [e_callV, e_callS, e_callW, e_goto, e_ci, e_cl, e_cd, e_null, e_iadd, e_isub, e_imul, e_iand, e_ishr, e_idiv, e_irem, e_ineg, e_ladd, e_lsub, e_lor, e_land, e_ldiv, e_lshl, e_lshr, e_i2l, e_l2i, e_i2b, e_i2d, e_l2d, e_d2l, e_dneg, e_dadd, e_dmul, e_ddiv, e_lcmp, e_dcmpl, e_dcmpg, e_dup, e_dup2, e_pop, e_ild, e_lld, e_dld, e_ald, e_ist, e_lst, e_dst, e_ast, e_iinc, e_if_eq, e_icmp_eq, e_if_lt, e_icmp_lt, e_if_ge, e_icmp_ge, e_if_gt, e_icmp_gt, e_if_le, e_icmp_le, e_if_ne, e_icmp_ne, e_ifnull, e_ifnonnull, e_acmp_ne, e_getI, e_getL, e_getR, e_putI, e_putZ, e_putL, e_putR, e_iald, e_iast, e_zald, e_zast, e_lald, e_last, e_dald, e_dast, e_aald, e_aast, e_new, e_newa, e_newq, e_ret0, e_iret, e_zret, e_lret, e_aret, e_obj, e_acpL, e_acpD, e_max, e_d2b, e_b2d, e_sld, e_slen, e_lawret, e_place, e_tsw, xsw, xKn_i, xKn_0, if_false, if_true, eq_self, Nat.zero_add, exists_eq', exists_eq, true_or, or_true, List.length_cons, List.length_nil, Nat.le_refl, Nat.zero_le, Nat.sub_zero, xent, xcat, List.lookup, beq_self_eq_true, Nat.reduceBEq, xst1, xst2, List.filter, Bool.not_true, Bool.not_false, Bool.and_true, Bool.true_and, Bool.and_false, Bool.false_and, xsum, List.map, List.sum_cons, List.sum_nil, List.drop, List.take, List.reverse, List.reverseAux, Option.toList, List.cons_append, List.nil_append, Nat.reduceAdd, Nat.reduceSub, Nat.reduceLeDiff, Nat.reduceEqDiff, true_and, and_true, exists_eq_left', Option.some.injEq, exists_eq_left, List.getElem?_cons_zero, List.getElem?_cons_succ, Prod.mk.injEq, Sum.inr.injEq, gI_sI, gI_sL, gI_sD, gI_sR, gI_nO, gI_cL, gI_cD, gL_sI, gL_sL, gL_sD, gL_sR, gL_nO, gL_cL, gL_cD, gD_sI, gD_sL, gD_sD, gD_sR, gD_nO, gD_cL, gD_cD, gR_sI, gR_sL, gR_sD, gR_sR, gR_nO, gR_cL, gR_cD, gV_sI, gV_sL, gV_sD, gV_sR, gV_nO, gV_cL, gV_cD, gV_nO_mono, y_ltI, y_leI, y_eqI, y_ltl, y_lel, y_eql, y_lle, y_llt, y_leq, y_m1, y_neg, y_nn, y_cl, y_in, y_add, y_addl, y_ladd, y_mul, y_mull, y_lmul, y_subl, y_sub, y_am1, y_divl, y_reml, y_10, y_mod, reduceCtorEq, Nat.reduceDiv, Nat.reduceMul, Nat.reduceMod, Nat.reduceLT, Nat.reduceEqDiff, Int32.reduceLT, Int32.reduceLE, Int32.reduceSub, Int32.reduceAdd, false_and, and_false, true_and, and_true, and_self, not_true_eq_false, not_false_eq_true, true_implies, false_implies, implies_true, ite_self, ne_eq, forall_eq, forall_const, if_false, if_true, ite_false, ite_true]
          have hkl : Kp F M (rlook (sI M 4300 0 F 1) (F + 1) (30 * p + n) 0) := Kp_look (by omega) (Kp_sI (Kp_refl _ _) rfl (fun _ => Nat.le_refl _))
          have after : ∀ τ' r', (r' = .inr 1 → τ' = σ ∧ tof σ 8 p n none = none) → (¬ r' = .inr 1 → τ' = τ ∧ r' = r) → (∀ u, r' = .inl u → u < 240) → (∀ q, r' = .inr q → q < 100) → RET X x y z (F + 1) (rlook (sI M 4300 0 F 1) (F + 1) (30 * p + n) 0) τ' r' := by
            intro τ' r' e1 e2 e3 e4 M2 tl2 ht2 hs2 hk2 hr2
            have q2 : gI M2 4200 0 F = nI (30 * lo + n) := by
              rw [(hk2.2 F (by omega)).1]
              simp only [rlook, gI_sI, gI_sL, gI_sD, gI_sR, gI_nO, gI_cL, gI_cD, gL_sI, gL_sL, gL_sD, gL_sR, gL_nO, gL_cL, gL_cD, gD_sI, gD_sL, gD_sD, gD_sR, gD_nO, gD_cL, gD_cD, gR_sI, gR_sL, gR_sD, gR_sR, gR_nO, gR_cL, gR_cD, gV_sI, gV_sL, gV_sD, gV_sR, gV_nO, gV_cL, gV_cD, gV_nO_mono, reduceCtorEq, Nat.reduceDiv, Nat.reduceMul, Nat.reduceMod, Nat.reduceLT, Nat.reduceEqDiff, Int32.reduceLT, Int32.reduceLE, Int32.reduceSub, Int32.reduceAdd, false_and, and_false, true_and, and_true, and_self, not_true_eq_false, not_false_eq_true, true_implies, false_implies, implies_true, ite_self, ne_eq, forall_eq, forall_const, if_false, if_true, ite_false, ite_true]
              rw [if_neg (by omega)]
              exact h2
            have q3 : gI M2 4300 0 F = nI 1 := by
              rw [(hk2.2 F (by omega)).2]
              simp only [rlook, gI_sI, gI_sL, gI_sD, gI_sR, gI_nO, gI_cL, gI_cD, gL_sI, gL_sL, gL_sD, gL_sR, gL_nO, gL_cL, gL_cD, gD_sI, gD_sL, gD_sD, gD_sR, gD_nO, gD_cL, gD_cD, gR_sI, gR_sL, gR_sD, gR_sR, gR_nO, gR_cL, gR_cD, gV_sI, gV_sL, gV_sD, gV_sR, gV_nO, gV_cL, gV_cD, gV_nO_mono, reduceCtorEq, Nat.reduceDiv, Nat.reduceMul, Nat.reduceMod, Nat.reduceLT, Nat.reduceEqDiff, Int32.reduceLT, Int32.reduceLE, Int32.reduceSub, Int32.reduceAdd, false_and, and_false, true_and, and_true, and_self, not_true_eq_false, not_false_eq_true, true_implies, false_implies, implies_true, ite_self, ne_eq, forall_eq, forall_const, if_false, if_true, ite_false, ite_true]
              rw [if_neg (by omega)]
              rfl
            have kp3 := Kp_trans hkl (Kp_le (Nat.le_succ F) hk2)
            refine rf_head hX ht2 hs2.1.1 (by omega) (by omega) hs2.2 q2 q3 (fun z => by omega) (fun _ => hX.2.2.2.1 _ _ _ _ _ ?_) (fun z => by omega) (fun z => by omega) (fun z => by omega)
            have hne : (rcode r' = -1) = (r' = .inr 1) := by
              cases r' with
              | inl u =>
                have := e3 u rfl
                refine propext ⟨fun z => ?_, fun z => by cases z⟩
                rw [show rcode (.inl u) = nI u from rfl, y_m1 (by omega)] at z
                exact z.elim
              | inr q =>
                have := e4 q rfl
                rw [show rcode (.inr q) = -(nI q) from rfl, y_ng1 this]
                exact propext ⟨fun z => by rw [z], fun z => by cases z; rfl⟩
            simp (disch := omega) only [e_callV, e_callS, e_callW, e_goto, e_ci, e_cl, e_cd, e_null, e_iadd, e_isub, e_imul, e_iand, e_ishr, e_idiv, e_irem, e_ineg, e_ladd, e_lsub, e_lor, e_land, e_ldiv, e_lshl, e_lshr, e_i2l, e_l2i, e_i2b, e_i2d, e_l2d, e_d2l, e_dneg, e_dadd, e_dmul, e_ddiv, e_lcmp, e_dcmpl, e_dcmpg, e_dup, e_dup2, e_pop, e_ild, e_lld, e_dld, e_ald, e_ist, e_lst, e_dst, e_ast, e_iinc, e_if_eq, e_icmp_eq, e_if_lt, e_icmp_lt, e_if_ge, e_icmp_ge, e_if_gt, e_icmp_gt, e_if_le, e_icmp_le, e_if_ne, e_icmp_ne, e_ifnull, e_ifnonnull, e_acmp_ne, e_getI, e_getL, e_getR, e_putI, e_putZ, e_putL, e_putR, e_iald, e_iast, e_zald, e_zast, e_lald, e_last, e_dald, e_dast, e_aald, e_aast, e_new, e_newa, e_newq, e_ret0, e_iret, e_zret, e_lret, e_aret, e_obj, e_acpL, e_acpD, e_max, e_d2b, e_b2d, e_sld, e_slen, e_lawret, e_place, e_tsw, xsw, xKn_i, xKn_0, if_false, if_true, eq_self, Nat.zero_add, exists_eq', exists_eq, true_or, or_true, List.length_cons, List.length_nil, Nat.le_refl, Nat.zero_le, Nat.sub_zero, xent, xcat, List.lookup, beq_self_eq_true, Nat.reduceBEq, xst1, xst2, List.filter, Bool.not_true, Bool.not_false, Bool.and_true, Bool.true_and, Bool.and_false, Bool.false_and, xsum, List.map, List.sum_cons, List.sum_nil, List.drop, List.take, List.reverse, List.reverseAux, Option.toList, List.cons_append, List.nil_append, Nat.reduceAdd, Nat.reduceSub, Nat.reduceLeDiff, Nat.reduceEqDiff, true_and, and_true, exists_eq_left', Option.some.injEq, exists_eq_left, List.getElem?_cons_zero, List.getElem?_cons_succ, Prod.mk.injEq, Sum.inr.injEq, gI_sI, gI_sL, gI_sD, gI_sR, gI_nO, gI_cL, gI_cD, gL_sI, gL_sL, gL_sD, gL_sR, gL_nO, gL_cL, gL_cD, gD_sI, gD_sL, gD_sD, gD_sR, gD_nO, gD_cL, gD_cD, gR_sI, gR_sL, gR_sD, gR_sR, gR_nO, gR_cL, gR_cD, gV_sI, gV_sL, gV_sD, gV_sR, gV_nO, gV_cL, gV_cD, gV_nO_mono, y_ltI, y_leI, y_eqI, y_ltl, y_lel, y_eql, y_lle, y_llt, y_leq, y_m1, y_neg, y_nn, y_cl, y_in, y_add, y_addl, y_ladd, y_mul, y_mull, y_lmul, y_subl, y_sub, y_am1, y_divl, y_reml, y_10, y_mod, reduceCtorEq, Nat.reduceDiv, Nat.reduceMul, Nat.reduceMod, Nat.reduceLT, Nat.reduceEqDiff, Int32.reduceLT, Int32.reduceLE, Int32.reduceSub, Int32.reduceAdd, false_and, and_false, true_and, and_true, and_self, not_true_eq_false, not_false_eq_true, true_implies, false_implies, implies_true, ite_self, ne_eq, forall_eq, forall_const, if_false, if_true, ite_false, ite_true, BX9_findFrom_83, hr2, hne, SR_all hs2.1.1]
            refine ⟨fun z => ?_, fun z => ?_⟩
            · obtain ⟨e5, e6⟩ := e2 z
              rw [e5] at hs2
              rw [e6]
              refine v_X9_gives (by omega) hs2.2 ?_
              simp (disch := omega) only [e_callV, e_callS, e_callW, e_goto, e_ci, e_cl, e_cd, e_null, e_iadd, e_isub, e_imul, e_iand, e_ishr, e_idiv, e_irem, e_ineg, e_ladd, e_lsub, e_lor, e_land, e_ldiv, e_lshl, e_lshr, e_i2l, e_l2i, e_i2b, e_i2d, e_l2d, e_d2l, e_dneg, e_dadd, e_dmul, e_ddiv, e_lcmp, e_dcmpl, e_dcmpg, e_dup, e_dup2, e_pop, e_ild, e_lld, e_dld, e_ald, e_ist, e_lst, e_dst, e_ast, e_iinc, e_if_eq, e_icmp_eq, e_if_lt, e_icmp_lt, e_if_ge, e_icmp_ge, e_if_gt, e_icmp_gt, e_if_le, e_icmp_le, e_if_ne, e_icmp_ne, e_ifnull, e_ifnonnull, e_acmp_ne, e_getI, e_getL, e_getR, e_putI, e_putZ, e_putL, e_putR, e_iald, e_iast, e_zald, e_zast, e_lald, e_last, e_dald, e_dast, e_aald, e_aast, e_new, e_newa, e_newq, e_ret0, e_iret, e_zret, e_lret, e_aret, e_obj, e_acpL, e_acpD, e_max, e_d2b, e_b2d, e_sld, e_slen, e_lawret, e_place, e_tsw, xsw, xKn_i, xKn_0, if_false, if_true, eq_self, Nat.zero_add, exists_eq', exists_eq, true_or, or_true, List.length_cons, List.length_nil, Nat.le_refl, Nat.zero_le, Nat.sub_zero, xent, xcat, List.lookup, beq_self_eq_true, Nat.reduceBEq, xst1, xst2, List.filter, Bool.not_true, Bool.not_false, Bool.and_true, Bool.true_and, Bool.and_false, Bool.false_and, xsum, List.map, List.sum_cons, List.sum_nil, List.drop, List.take, List.reverse, List.reverseAux, Option.toList, List.cons_append, List.nil_append, Nat.reduceAdd, Nat.reduceSub, Nat.reduceLeDiff, Nat.reduceEqDiff, true_and, and_true, exists_eq_left', Option.some.injEq, exists_eq_left, List.getElem?_cons_zero, List.getElem?_cons_succ, Prod.mk.injEq, Sum.inr.injEq, gI_sI, gI_sL, gI_sD, gI_sR, gI_nO, gI_cL, gI_cD, gL_sI, gL_sL, gL_sD, gL_sR, gL_nO, gL_cL, gL_cD, gD_sI, gD_sL, gD_sD, gD_sR, gD_nO, gD_cL, gD_cD, gR_sI, gR_sL, gR_sD, gR_sR, gR_nO, gR_cL, gR_cD, gV_sI, gV_sL, gV_sD, gV_sR, gV_nO, gV_cL, gV_cD, gV_nO_mono, y_ltI, y_leI, y_eqI, y_ltl, y_lel, y_eql, y_lle, y_llt, y_leq, y_m1, y_neg, y_nn, y_cl, y_in, y_add, y_addl, y_ladd, y_mul, y_mull, y_lmul, y_subl, y_sub, y_am1, y_divl, y_reml, y_10, y_mod, reduceCtorEq, Nat.reduceDiv, Nat.reduceMul, Nat.reduceMod, Nat.reduceLT, Nat.reduceEqDiff, Int32.reduceLT, Int32.reduceLE, Int32.reduceSub, Int32.reduceAdd, false_and, and_false, true_and, and_true, and_self, not_true_eq_false, not_false_eq_true, true_implies, false_implies, implies_true, ite_self, ne_eq, forall_eq, forall_const, if_false, if_true, ite_false, ite_true]
              exact hR _ _ (TL2 _ _) (RS_give hs2.1) (Kp_give kp3) (give_1025 _ _ _)
            · obtain ⟨e5, e6⟩ := e1 z
              rw [e5] at hs2
              rw [e6] at et
              exact stage2 _ [(5, _), (4, _)] ⟨RK_4300 hs2.1, by simp only [gI_sI, gI_sL, gI_sD, gI_sR, gI_nO, gI_cL, gI_cD, gL_sI, gL_sL, gL_sD, gL_sR, gL_nO, gL_cL, gL_cD, gD_sI, gD_sL, gD_sD, gD_sR, gD_nO, gD_cL, gD_cD, gR_sI, gR_sL, gR_sD, gR_sR, gR_nO, gR_cL, gR_cD, gV_sI, gV_sL, gV_sD, gV_sR, gV_nO, gV_cL, gV_cD, gV_nO_mono, reduceCtorEq, Nat.reduceDiv, Nat.reduceMul, Nat.reduceMod, Nat.reduceLT, Nat.reduceEqDiff, Int32.reduceLT, Int32.reduceLE, Int32.reduceSub, Int32.reduceAdd, false_and, and_false, true_and, and_true, and_self, not_true_eq_false, not_false_eq_true, true_implies, false_implies, implies_true, ite_self, ne_eq, forall_eq, forall_const, if_false, if_true, ite_false, ite_true]; exact hs2.2⟩ (Kp_sI kp3 rfl (fun _ => Nat.le_refl _)) ht (TL2 _ _) (by simp only [gI_sI, gI_sL, gI_sD, gI_sR, gI_nO, gI_cL, gI_cD, gL_sI, gL_sL, gL_sD, gL_sR, gL_nO, gL_cL, gL_cD, gD_sI, gD_sL, gD_sD, gD_sR, gD_nO, gD_cL, gD_cD, gR_sI, gR_sL, gR_sD, gR_sR, gR_nO, gR_cL, gR_cD, gV_sI, gV_sL, gV_sD, gV_sR, gV_nO, gV_cL, gV_cD, gV_nO_mono, reduceCtorEq, Nat.reduceDiv, Nat.reduceMul, Nat.reduceMod, Nat.reduceLT, Nat.reduceEqDiff, Int32.reduceLT, Int32.reduceLE, Int32.reduceSub, Int32.reduceAdd, false_and, and_false, true_and, and_true, and_self, not_true_eq_false, not_false_eq_true, true_implies, false_implies, implies_true, ite_self, ne_eq, forall_eq, forall_const, if_false, if_true, ite_false, ite_true]; exact q2) (by simp only [gI_sI, gI_sL, gI_sD, gI_sR, gI_nO, gI_cL, gI_cD, gL_sI, gL_sL, gL_sD, gL_sR, gL_nO, gL_cL, gL_cD, gD_sI, gD_sL, gD_sD, gD_sR, gD_nO, gD_cL, gD_cD, gR_sI, gR_sL, gR_sD, gR_sR, gR_nO, gR_cL, gR_cD, gV_sI, gV_sL, gV_sD, gV_sR, gV_nO, gV_cL, gV_cD, gV_nO_mono, reduceCtorEq, Nat.reduceDiv, Nat.reduceMul, Nat.reduceMod, Nat.reduceLT, Nat.reduceEqDiff, Int32.reduceLT, Int32.reduceLE, Int32.reduceSub, Int32.reduceAdd, false_and, and_false, true_and, and_true, and_self, not_true_eq_false, not_false_eq_true, true_implies, false_implies, implies_true, ite_self, ne_eq, forall_eq, forall_const, if_false, if_true, ite_false, ite_true]; rfl) et
          cases e8 : tof σ 8 p n none with
          | none =>
            refine ihl p hpl.1 σ n σ (.inr 1) _ (F + 1) [(5, _), (4, _)] (by rw [fd, e8]) (RS_look (RK_4300 hK.1)) hI (by omega) hn (by omega) (by simp only [rlook, gI_sI, gI_sL, gI_sD, gI_sR, gI_nO, gI_cL, gI_cD, gL_sI, gL_sL, gL_sD, gL_sR, gL_nO, gL_cL, gL_cD, gD_sI, gD_sL, gD_sD, gD_sR, gD_nO, gD_cL, gD_cD, gR_sI, gR_sL, gR_sD, gR_sR, gR_nO, gR_cL, gR_cD, gV_sI, gV_sL, gV_sD, gV_sR, gV_nO, gV_cL, gV_cD, gV_nO_mono, reduceCtorEq, Nat.reduceDiv, Nat.reduceMul, Nat.reduceMod, Nat.reduceLT, Nat.reduceEqDiff, Int32.reduceLT, Int32.reduceLE, Int32.reduceSub, Int32.reduceAdd, false_and, and_false, true_and, and_true, and_self, not_true_eq_false, not_false_eq_true, true_implies, false_implies, implies_true, ite_self, ne_eq, forall_eq, forall_const, if_false, if_true, ite_false, ite_true]) (by simp only [rlook, gI_sI, gI_sL, gI_sD, gI_sR, gI_nO, gI_cL, gI_cD, gL_sI, gL_sL, gL_sD, gL_sR, gL_nO, gL_cL, gL_cD, gD_sI, gD_sL, gD_sD, gD_sR, gD_nO, gD_cL, gD_cD, gR_sI, gR_sL, gR_sD, gR_sR, gR_nO, gR_cL, gR_cD, gV_sI, gV_sL, gV_sD, gV_sR, gV_nO, gV_cL, gV_cD, gV_nO_mono, reduceCtorEq, Nat.reduceDiv, Nat.reduceMul, Nat.reduceMod, Nat.reduceLT, Nat.reduceEqDiff, Int32.reduceLT, Int32.reduceLE, Int32.reduceSub, Int32.reduceAdd, false_and, and_false, true_and, and_true, and_self, not_true_eq_false, not_false_eq_true, true_implies, false_implies, implies_true, ite_self, ne_eq, forall_eq, forall_const, if_false, if_true, ite_false, ite_true]) (TL2 _ _) ?_
            exact after σ (.inr 1) (fun _ => ⟨rfl, e8⟩) (fun z => absurd rfl z) (fun u z => by cases z) (fun q z => by cases z; omega)
          | some c' =>
            rw [et, e8] at h
            have h' : fd (k + 1) σ p n = some (τ, r) := by rw [fd, e8]; exact h
            obtain ⟨w1, w2, w3, w4⟩ := fd_ok (k + 1) σ p n τ r h' hI (by omega) hn
            have hnr : ¬ r = .inr 1 := by
              intro z
              rw [z] at h
              dsimp only [Option.some_or] at h
              split at h
              · cases h
              · exact mkF_ne1 h rfl
            refine ihl p hpl.1 σ n τ r _ (F + 1) [(5, _), (4, _)] h' (RS_look (RK_4300 hK.1)) hI (by omega) hn (by omega) (by simp only [rlook, gI_sI, gI_sL, gI_sD, gI_sR, gI_nO, gI_cL, gI_cD, gL_sI, gL_sL, gL_sD, gL_sR, gL_nO, gL_cL, gL_cD, gD_sI, gD_sL, gD_sD, gD_sR, gD_nO, gD_cL, gD_cD, gR_sI, gR_sL, gR_sD, gR_sR, gR_nO, gR_cL, gR_cD, gV_sI, gV_sL, gV_sD, gV_sR, gV_nO, gV_cL, gV_cD, gV_nO_mono, reduceCtorEq, Nat.reduceDiv, Nat.reduceMul, Nat.reduceMod, Nat.reduceLT, Nat.reduceEqDiff, Int32.reduceLT, Int32.reduceLE, Int32.reduceSub, Int32.reduceAdd, false_and, and_false, true_and, and_true, and_self, not_true_eq_false, not_false_eq_true, true_implies, false_implies, implies_true, ite_self, ne_eq, forall_eq, forall_const, if_false, if_true, ite_false, ite_true]) (by simp only [rlook, gI_sI, gI_sL, gI_sD, gI_sR, gI_nO, gI_cL, gI_cD, gL_sI, gL_sL, gL_sD, gL_sR, gL_nO, gL_cL, gL_cD, gD_sI, gD_sL, gD_sD, gD_sR, gD_nO, gD_cL, gD_cD, gR_sI, gR_sL, gR_sD, gR_sR, gR_nO, gR_cL, gR_cD, gV_sI, gV_sL, gV_sD, gV_sR, gV_nO, gV_cL, gV_cD, gV_nO_mono, reduceCtorEq, Nat.reduceDiv, Nat.reduceMul, Nat.reduceMod, Nat.reduceLT, Nat.reduceEqDiff, Int32.reduceLT, Int32.reduceLE, Int32.reduceSub, Int32.reduceAdd, false_and, and_false, true_and, and_true, and_self, not_true_eq_false, not_false_eq_true, true_implies, false_implies, implies_true, ite_self, ne_eq, forall_eq, forall_const, if_false, if_true, ite_false, ite_true]) (TL2 _ _) ?_
            refine after τ r (fun z => absurd z hnr) (fun _ => ⟨rfl, rfl⟩) (fun u z => ?_) (fun q z => by have := w4 q z; omega)
            obtain ⟨-, -, -, -, q5⟩ := the_off w2.2.1 (w3 u z).1
            exact q5
    intro σ lo n τ r M F tl h hK hI hl hn hF h2 h3 hT hR
    have := hI.2.1.2.1
    exact go lo σ n τ r M F tl h hK hI hl hn (by omega) h2 h3 hT hR
