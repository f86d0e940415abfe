/-! PURE: the methods in work: their frames on the class's side. -/
abbrev FRM : Type := Bool × Nat × Nat × Nat × Nat × Nat × (Nat → Int64)
def f_call (φ : FRM) : Bool := φ.1
def f_ctr (φ : FRM) : Nat := φ.2.1
def f_held (φ : FRM) : Nat := φ.2.2.1
def f_runs (φ : FRM) : Nat := φ.2.2.2.1
def f_m (φ : FRM) : Nat := φ.2.2.2.2.1
def f_p (φ : FRM) : Nat := φ.2.2.2.2.2.1
def f_snap (φ : FRM) : Nat → Int64 := φ.2.2.2.2.2.2
def f_new (call : Bool) (i held runs m : Nat) : FRM := (call, i, held, runs, m, 0, fun _ => 0)
/-- the act behind is the next; the rows as they were when it begins -/
def f_step (φ : FRM) : FRM := (φ.1, φ.2.1, φ.2.2.1, φ.2.2.2.1, φ.2.2.2.2.1, f_p φ + 1, φ.2.2.2.2.2.2)
def f_keep (φ : FRM) (ρ : Nat → Int64) : FRM := (φ.1, φ.2.1, φ.2.2.1, φ.2.2.2.1, φ.2.2.2.2.1, f_p φ, ρ)
def f_file (σ : SS) (φ : FRM) : Nat := filO σ (f_runs φ)
def f_cnt (σ : SS) (φ : FRM) : Nat := z_acn σ (f_file σ φ) (f_m φ)
def f_kind (σ : SS) (φ : FRM) (p : Nat) : Int32 := z_ak σ (f_file σ φ) (f_m φ * 5 + p)
def f_try (σ : SS) (φ : FRM) : Bool := decide (0 < f_p φ ∧ f_p φ < f_cnt σ φ ∧ f_kind σ φ (f_p φ - 1) = 11)
def CMF (M : XM) : Prop := gR M 800 0 0 = some 0 ∧ gR M 801 0 0 = some 0 ∧ gR M 800 1 0 = some 1 ∧ gR M 801 1 0 = some 1 ∧ (∀ j, gV M 2 j = (gR M 2100 0 j).isSome ∧ (∀ i, gR M 2100 0 j = some i → i = j) ∧ (∀ i, gR M 307 j 0 = some i → i = j + 2) ∧ (gR M 2100 0 j = none → gR M 307 j 0 = none)) ∧ (∀ q, gV M 7 q = (ltb q 2 || (gR M 307 (q - 2) 0).isSome) ∧ gV M 21 q = gV M 7 q ∧ gV M 22 q = gV M 7 q) ∧ (∀ q, gV M 7 q = true → gR M 800 q 0 = some q ∧ gR M 801 q 0 = some q)
/-- the class's side while methods are in work, but for the frames -/
def CRU (M : XM) (σ : SS) : Prop := CFs M ∧ CF M σ ∧ CL0 M σ ∧ CLc M σ ∧ CC M σ ∧ CMF M ∧ RWS M σ 0 (z_row σ) ∧ gI M 708 0 0 = nI (z_mst σ) ∧ gI M 709 0 0 = nI (z_beg σ) ∧ gI M 710 0 0 = nI (z_stp σ) ∧ gL M 712 0 0 = z_lst σ
theorem CRU_of {M : XM} {σ : SS} (h : CLS M σ) : CRU M σ ∧ gI M 706 0 0 = 0 ∧ gI M 707 0 0 = 0 := by
  obtain ⟨a1, a2, a3, a4, a5, m1, m2, m3, m4, m5, m6, m7, m8, m9, m10, m11, m12, m13, m14⟩ := h
  exact ⟨⟨a1, a2, a3, a4, a5, ⟨m1, m2, m3, m4, m12, m13, m14⟩, m5, m8, m9, m10, m11⟩, m6, m7⟩
theorem CLS_of {M : XM} {σ : SS} (h : CRU M σ) (h6 : gI M 706 0 0 = 0) (h7 : gI M 707 0 0 = 0) : CLS M σ := by
  obtain ⟨a1, a2, a3, a4, a5, ⟨m1, m2, m3, m4, m12, m13, m14⟩, m5, m8, m9, m10, m11⟩ := h
  exact ⟨a1, a2, a3, a4, a5, m1, m2, m3, m4, m5, h6, h7, m8, m9, m10, m11, m12, m13, m14⟩
theorem CRU_CK {M : XM} {σ : SS} (h : CRU M σ) : CK M σ := ⟨h.1, h.2.1, h.2.2.1, h.2.2.2.1⟩
/-- what frames rest on of the state -/
def tZ (σ τ : SS) : Prop := tF σ τ ∧ tC σ τ ∧ z_off τ = z_off σ
theorem tZ_refl (σ : SS) : tZ σ σ := ⟨tF_refl σ, tC_refl σ, rfl⟩
theorem tZ_trans {σ τ υ : SS} (h : tZ σ τ) (h2 : tZ τ υ) : tZ σ υ := ⟨tF_trans h.1 h2.1, tC_trans h.2.1 h2.2.1, h2.2.2.trans h.2.2⟩
theorem tZ_FR {σ τ : SS} (h : FR σ τ) : tZ σ τ := ⟨h.1, h.2.1, h.2.2.2.2.2.1⟩
theorem tZ_FR0 {σ τ : SS} (h : FR0 σ τ) : tZ σ τ := ⟨h.1, h.2.1, h.2.2.2.2.2.1⟩
theorem f_file_st {σ τ : SS} (h : tZ σ τ) (φ : FRM) : f_file τ φ = f_file σ φ := by simp only [f_file, filO, h.2.2]
theorem f_cnt_st {σ τ : SS} (h : tZ σ τ) (φ : FRM) : f_cnt τ φ = f_cnt σ φ := by simp only [f_cnt, f_file_st h, h.1.2.2.2.2.2.2.2.2.1]
theorem f_kind_st {σ τ : SS} (h : tZ σ τ) (φ : FRM) (p : Nat) : f_kind τ φ p = f_kind σ φ p := by simp only [f_kind, f_file_st h, h.1.2.2.2.2.2.2.2.2.2.1]
theorem f_try_st {σ τ : SS} (h : tZ σ τ) (φ : FRM) : f_try τ φ = f_try σ φ := by simp only [f_try, f_cnt_st h, f_kind_st h]
/-- frame j of the class holds φ; next is its next act -/
def FC (M : XM) (σ : SS) (j : Nat) (φ : FRM) (next : Nat) : Prop := gR M 2100 0 j = some j ∧ gI M 300 j 0 = b2i (f_call φ) ∧ gR M 301 j 0 = some (f_ctr φ) ∧ gR M 302 j 0 = some (f_held φ) ∧ gR M 303 j 0 = some (f_runs φ) ∧ gI M 304 j 0 = nI (f_m φ) ∧ gI M 305 j 0 = nI next ∧
  (gI M 306 j 0 = -1 ∨ ∃ k, gI M 306 j 0 = nI k ∧ k ≤ f_p φ) ∧ (gI M 306 j 0 = nI (f_p φ) ↔ f_try σ φ = true) ∧ (f_try σ φ = true → gR M 307 j 0 = some (j + 2) ∧ RWS M σ (j + 2) (f_snap φ))
theorem FC_st {M : XM} {σ τ : SS} {j : Nat} {φ : FRM} {n : Nat} (h : tZ σ τ) (hF : FC M σ j φ n) : FC M τ j φ n := by
  obtain ⟨h1, h2, h3, h4, h5, h6, h7, h8, h9, h10⟩ := hF
  refine ⟨h1, h2, h3, h4, h5, h6, h7, h8, ?_, ?_⟩
  · rw [f_try_st h]; exact h9
  · rw [f_try_st h]; exact fun z => ⟨(h10 z).1, RWS_st h.2.1 (h10 z).2⟩
/-- frames below F, and their kept rows, are as they were -/
def FKp (F : Nat) (M M' : XM) : Prop := ∀ j, j < F → gR M' 2100 0 j = gR M 2100 0 j ∧ gI M' 300 j 0 = gI M 300 j 0 ∧ gR M' 301 j 0 = gR M 301 j 0 ∧ gR M' 302 j 0 = gR M 302 j 0 ∧ gR M' 303 j 0 = gR M 303 j 0 ∧ gI M' 304 j 0 = gI M 304 j 0 ∧ gI M' 305 j 0 = gI M 305 j 0 ∧ gI M' 306 j 0 = gI M 306 j 0 ∧ gR M' 307 j 0 = gR M 307 j 0 ∧ ∀ k, gL M' 2200 (j + 2) k = gL M 2200 (j + 2) k ∧ gD M' 2300 (j + 2) k = gD M 2300 (j + 2) k
theorem FKp_refl (F : Nat) (M : XM) : FKp F M M := fun _ _ => ⟨rfl, rfl, rfl, rfl, rfl, rfl, rfl, rfl, rfl, fun _ => ⟨rfl, rfl⟩⟩
theorem FKp_trans {F : Nat} {M M1 M2 : XM} (h : FKp F M M1) (h2 : FKp F M1 M2) : FKp F M M2 := by
  intro j hj
  obtain ⟨a1, a2, a3, a4, a5, a6, a7, a8, a9, a10⟩ := h j hj
  obtain ⟨b1, b2, b3, b4, b5, b6, b7, b8, b9, b10⟩ := h2 j hj
  exact ⟨b1.trans a1, b2.trans a2, b3.trans a3, b4.trans a4, b5.trans a5, b6.trans a6, b7.trans a7, b8.trans a8, b9.trans a9, fun k => ⟨(b10 k).1.trans (a10 k).1, (b10 k).2.trans (a10 k).2⟩⟩
theorem FKp_le {F G : Nat} {M M1 : XM} (hl : F ≤ G) (h : FKp G M M1) : FKp F M M1 := fun j hj => h j (by omega)
/-- all but what frames and their kept rows hold -/
def pFK (f : Nat) : Bool := (300 ≤ f && f < 308) || f == 2100 || f == 2200 || f == 2300 || qX f
theorem FKp_sm {F : Nat} {M M1 : XM} (h : Sm pFK M M1) : FKp F M M1 := fun j _ => ⟨sm_R h rfl 0 j, sm_I h rfl j 0, sm_R h rfl j 0, sm_R h rfl j 0, sm_R h rfl j 0, sm_I h rfl j 0, sm_I h rfl j 0, sm_I h rfl j 0, sm_R h rfl j 0, fun k => ⟨sm_L h rfl (j + 2) k, sm_D h rfl (j + 2) k⟩⟩
theorem FC_kp {M M' : XM} {σ : SS} {j F : Nat} {φ : FRM} {n : Nat} (hj : j < F) (h : FKp F M M') (hF : FC M σ j φ n) : FC M' σ j φ n := by
  obtain ⟨a1, a2, a3, a4, a5, a6, a7, a8, a9, a10⟩ := h j hj
  simp only [FC, RWS, a1, a2, a3, a4, a5, a6, a7, a8, a9, a10]
  exact hF
/-- the frames that wait -/
def CST (M : XM) (σ : SS) : List FRM → Prop
  | [] => True
  | φ :: t => FC M σ t.length φ (f_p φ + 1) ∧ CST M σ t
theorem CST_st {M : XM} {σ τ : SS} (h : tZ σ τ) : ∀ t, CST M σ t → CST M τ t := by
  intro t
  induction t with
  | nil => exact id
  | cons φ t ih => exact fun z => ⟨FC_st h z.1, ih z.2⟩
theorem CST_kp {M M' : XM} {σ : SS} {F : Nat} (h : FKp F M M') : ∀ t : List FRM, t.length ≤ F → CST M σ t → CST M' σ t := by
  intro t
  induction t with
  | nil => exact fun _ => id
  | cons φ t ih =>
    intro hl z
    simp only [List.length_cons] at hl
    exact ⟨FC_kp (by omega) h z.1, ih (by omega) z.2⟩
def ncall (t : List FRM) : Nat := match t with
  | [] => 0
  | φ :: t => ncall t + (if f_call φ = true then 1 else 0)
-- rows copied
def mcp (M : XM) (a b : Nat) : XM := cD (cL M 2200 b 2200 a 0 0 40) 2300 b 2300 a 0 0 40
theorem v_X7_copyFrom {l : Launch} {D : DX} {b0 : Nat} {M : XM} {post : XM → Option XV → Prop} {a b : Nat} (ha : gR M 800 a 0 = some a) (ha2 : gR M 801 a 0 = some a) (hb : gR M 800 b 0 = some b) (hb2 : gR M 801 b 0 = some b) (h : post (mcp M a b) none) : xMet l D b0 1 0 0 yX7_copyFrom cX7_copyFrom 2 (none) [vR 7 (some a), vR 7 (some b)] M post := by
  refine MTX7_copyFrom (Nat.le_of_ble_eq_true rfl) (fun X hX => hX _ _ _ _ _ ?_)
  simp (disch := omega) only [e_callV, e_callS, e_callW, e_goto, e_ci, e_cl, e_cd, e_null, e_iadd, e_isub, e_imul, e_iand, e_ishr, e_idiv, e_irem, e_ineg, e_ladd, e_lsub, e_lor, e_land, e_ldiv, e_lshl, e_lshr, e_i2l, e_l2i, e_i2b, e_i2d, e_l2d, e_d2l, e_dneg, e_dadd, e_dmul, e_ddiv, e_lcmp, e_dcmpl, e_dcmpg, e_dup, e_dup2, e_pop, e_ild, e_lld, e_dld, e_ald, e_ist, e_lst, e_dst, e_ast, e_iinc, e_if_eq, e_icmp_eq, e_if_lt, e_icmp_lt, e_if_ge, e_icmp_ge, e_if_gt, e_icmp_gt, e_if_le, e_icmp_le, e_if_ne, e_icmp_ne, e_ifnull, e_ifnonnull, e_acmp_ne, e_getI, e_getL, e_getR, e_putI, e_putZ, e_putL, e_putR, e_iald, e_iast, e_zald, e_zast, e_lald, e_last, e_dald, e_dast, e_aald, e_aast, e_new, e_newa, e_newq, e_ret0, e_iret, e_zret, e_lret, e_aret, e_obj, e_acpL, e_acpD, e_max, e_d2b, e_b2d, e_sld, e_slen, e_lawret, e_place, e_tsw, xsw, xKn_i, xKn_0, if_false, if_true, eq_self, Nat.zero_add, exists_eq', exists_eq, true_or, or_true, List.length_cons, List.length_nil, Nat.le_refl, Nat.zero_le, Nat.sub_zero, xent, xcat, List.lookup, beq_self_eq_true, Nat.reduceBEq, xst1, xst2, List.filter, Bool.not_true, Bool.not_false, Bool.and_true, Bool.true_and, Bool.and_false, Bool.false_and, xsum, List.map, List.sum_cons, List.sum_nil, List.drop, List.take, List.reverse, List.reverseAux, Option.toList, List.cons_append, List.nil_append, Nat.reduceAdd, Nat.reduceSub, Nat.reduceLeDiff, Nat.reduceEqDiff, true_and, and_true, exists_eq_left', Option.some.injEq, exists_eq_left, List.getElem?_cons_zero, List.getElem?_cons_succ, Prod.mk.injEq, Sum.inr.injEq, gI_sI, gI_sL, gI_sD, gI_sR, gI_nO, gI_cL, gI_cD, gL_sI, gL_sL, gL_sD, gL_sR, gL_nO, gL_cL, gL_cD, gD_sI, gD_sL, gD_sD, gD_sR, gD_nO, gD_cL, gD_cD, gR_sI, gR_sL, gR_sD, gR_sR, gR_nO, gR_cL, gR_cD, gV_sI, gV_sL, gV_sD, gV_sR, gV_nO, gV_cL, gV_cD, gV_nO_mono, y_ltI, y_leI, y_eqI, y_ltl, y_lel, y_eql, y_lle, y_llt, y_leq, y_m1, y_neg, y_nn, y_cl, y_in, y_add, y_addl, y_ladd, y_mul, y_mull, y_lmul, y_subl, y_sub, y_am1, y_divl, y_reml, y_10, y_mod, reduceCtorEq, Nat.reduceDiv, Nat.reduceMul, Nat.reduceMod, Nat.reduceLT, Nat.reduceEqDiff, Int32.reduceLT, Int32.reduceLE, Int32.reduceSub, Int32.reduceAdd, false_and, and_false, true_and, and_true, and_self, not_true_eq_false, not_false_eq_true, true_implies, false_implies, implies_true, ite_self, ne_eq, forall_eq, forall_const, if_false, if_true, ite_false, ite_true, BX7_copyFrom_0, ha, ha2, hb, hb2, Int32.reduceToNatClampNeg]
  exact h
theorem RWS_mcp {M : XM} {σ : SS} {a b : Nat} {ρ : Nat → Int64} (h : RWS M σ b ρ) : RWS (mcp M a b) σ a ρ := by
  intro k hk
  obtain ⟨h1, h2⟩ := h k hk
  have e1 : gL (mcp M a b) 2200 a k = gL M 2200 b k := by
    unfold mcp
    rw [gL_cD, gL_cL, if_pos ⟨rfl, rfl, by omega, by omega⟩]
    congr 1
    omega
  have e2 : gD (mcp M a b) 2300 a k = gD M 2300 b k := by
    unfold mcp
    rw [gD_cD, if_pos ⟨rfl, rfl, by omega, by omega⟩, gD_cL]
    congr 1
    omega
  rw [e1, e2]
  exact ⟨h1, h2⟩
theorem mcp_ne {M : XM} {a b q : Nat} (h : ¬ q = a) (k : Nat) : gL (mcp M a b) 2200 q k = gL M 2200 q k ∧ gD (mcp M a b) 2300 q k = gD M 2300 q k := by
  unfold mcp
  rw [gL_cD, gL_cL, if_neg (fun z => h z.2.1), gD_cD, if_neg (fun z => h z.2.1), gD_cL]
  exact ⟨rfl, rfl⟩
theorem RWS_mcp_ne {M : XM} {σ : SS} {a b q : Nat} {ρ : Nat → Int64} (hq : ¬ q = a) (h : RWS M σ q ρ) : RWS (mcp M a b) σ q ρ := by
  intro k hk
  obtain ⟨e1, e2⟩ := mcp_ne (M := M) (b := b) hq k
  rw [e1, e2]
  exact h k hk
theorem mcp_sm (M : XM) (a b : Nat) {P : Nat → Bool} (h1 : P 2200 = false) (h2 : P 2300 = false) : Sm P M (mcp M a b) := sm_cD h2 (sm_cL h1 (sm_refl _ _))
theorem mcp_V (M : XM) (a b x y : Nat) : gV (mcp M a b) x y = gV M x y := rfl
theorem CMF_mcp {M : XM} {a b : Nat} (h : CMF M) : CMF (mcp M a b) := by
  have sm := mcp_sm M a b (P := fun f => !(f == 2200 || f == 2300)) rfl rfl
  simpa (decide := true) only [CMF, sm_R sm, mcp_V] using h
theorem CRU_mcp {M : XM} {σ : SS} {a b : Nat} (h : CRU M σ) (h2 : RWS (mcp M a b) σ 0 (z_row σ)) : CRU (mcp M a b) σ := by
  obtain ⟨a1, a2, a3, a4, a5, a6, a7, a8, a9, a10, a11⟩ := h
  have sm := mcp_sm M a b (P := fun f => !(f == 2200 || f == 2300)) rfl rfl
  exact ⟨CFs_sm (mcp_sm M a b rfl rfl) a1, CF_sm (mcp_sm M a b rfl rfl) a2, CL0_sm (mcp_sm M a b rfl rfl) a3, CLc_sm (mcp_sm M a b rfl rfl) a4, CC_sm (mcp_sm M a b rfl rfl) a5, CMF_mcp a6, h2, (sm_I sm rfl 0 0).trans a8, (sm_I sm rfl 0 0).trans a9, (sm_I sm rfl 0 0).trans a10, (sm_L sm rfl 0 0).trans a11⟩
-- the first class from one on, upwards, that has acts for a method
def hvn (σ : SS) (m : Nat) : Nat → Nat → Option Nat
  | 0, _ => none
  | k + 1, c => if 0 < z_acn σ (filO σ c) m then some c else (match z_sp σ c with
    | none => none
    | some s => hvn σ m k s)
def hvO (σ : SS) (m : Nat) (o : Option Nat) : Option Nat := match o with
  | none => none
  | some c => hvn σ m 13 c
theorem hvn_fuel {σ : SS} (hT : IT σ) (m : Nat) : ∀ k j c, z_the σ c = true → z_abv σ c < k → z_abv σ c < j → hvn σ m k c = hvn σ m j c := by
  intro k
  induction k with
  | zero => intro j c _ h; omega
  | succ k ih =>
    intro j c hc h1 h2
    obtain ⟨j, rfl⟩ : ∃ q, j = q + 1 := ⟨j - 1, by omega⟩
    simp only [hvn]
    cases e : z_sp σ c with
    | none => rfl
    | some s =>
      obtain ⟨q1, q2⟩ := IT_sp hT hc e
      dsimp only
      rw [ih j s q1 (by omega) (by omega)]
theorem hvn_sp {σ : SS} (hT : IT σ) {m c : Nat} (hc : z_the σ c = true) : hvn σ m 13 c = if 0 < z_acn σ (filO σ c) m then some c else hvO σ m (z_sp σ c) := by
  rw [show (13 : Nat) = 12 + 1 from rfl, hvn]
  cases e : z_sp σ c with
  | none => rfl
  | some s =>
    obtain ⟨q1, q2⟩ := IT_sp hT hc e
    have h12 := (hT c hc).2.2.2.1
    dsimp only [hvO]
    rw [hvn_fuel hT m 12 13 s q1 (by omega) (by omega)]
/-- what is found so runs a method: it is there, above the first, and has acts -/
theorem hvn_ok {σ : SS} (hI : II σ) {m : Nat} : ∀ a c r, z_the σ c = true → z_abv σ c = a → hvn σ m 13 c = some r → z_the σ r = true ∧ lbe σ 9 (c / 30) (r / 30) = true ∧ z_abv σ r ≤ z_abv σ c ∧ 0 < z_acn σ (filO σ r) m := by
  intro a
  induction a with
  | zero =>
    intro c r hc ha h
    rw [hvn_sp hI.2.2 hc] at h
    split at h
    · rename_i h0
      cases h
      exact ⟨hc, lbe_self σ _, Nat.le_refl _, h0⟩
    · cases e : z_sp σ c with
      | none => rw [e] at h; cases h
      | some s => have := (IT_sp hI.2.2 hc e).2; omega
  | succ a ih =>
    intro c r hc ha h
    rw [hvn_sp hI.2.2 hc] at h
    split at h
    · rename_i h0
      cases h
      exact ⟨hc, lbe_self σ _, Nat.le_refl _, h0⟩
    · cases e : z_sp σ c with
      | none => rw [e] at h; cases h
      | some s =>
        rw [e] at h
        obtain ⟨q1, q2⟩ := IT_sp hI.2.2 hc e
        obtain ⟨w1, w2, w3, w4⟩ := ih s r q1 (by omega) h
        have hl := ((hI.2.2 c hc).1 s (.inl e)).2.2
        exact ⟨w1, lbe_trans hI.2.1 w2 _ hl, by omega, w4⟩
theorem v_X6_firstWithActs {l : Launch} {D : DX} {b0 : Nat} {M : XM} {post : XM → Option XV → Prop} {σ : SS} {o : Option Nat} {m : Nat} (hK : CK M σ) (hI : II σ) (ho : ∀ c, o = some c → z_the σ c = true) (hm : m < 3) (h : post M (some (vR 4 (hvO σ m o)))) : xMet l D b0 2 0 0 yX6_firstWithActs cX6_firstWithActs 3 (some (FieldType.object "ContractLoaders$LoadedClass")) [vR 4 o, vI (nI m)] M post := by
  refine MTX6_firstWithActs (Nat.le_of_ble_eq_true rfl) (fun X hX => hX.1 _ _ _ _ _ ?_)
  have loop : ∀ a (q : Option Nat), (∀ c, q = some c → z_the σ c = true ∧ z_abv σ c < a) → post M (some (vR 4 (hvO σ m q))) → X 2 [(2, vR 4 q), (0, vR 4 o), (1, vI (nI m))] [] M 0 0 := by
    intro a
    induction a with
    | zero =>
      intro q hq hp
      refine hX.2 _ _ _ _ _ ?_
      cases q with
      | none =>
        simp (disch := omega) only [e_callV, e_callS, e_callW, e_goto, e_ci, e_cl, e_cd, e_null, e_iadd, e_isub, e_imul, e_iand, e_ishr, e_idiv, e_irem, e_ineg, e_ladd, e_lsub, e_lor, e_land, e_ldiv, e_lshl, e_lshr, e_i2l, e_l2i, e_i2b, e_i2d, e_l2d, e_d2l, e_dneg, e_dadd, e_dmul, e_ddiv, e_lcmp, e_dcmpl, e_dcmpg, e_dup, e_dup2, e_pop, e_ild, e_lld, e_dld, e_ald, e_ist, e_lst, e_dst, e_ast, e_iinc, e_if_eq, e_icmp_eq, e_if_lt, e_icmp_lt, e_if_ge, e_icmp_ge, e_if_gt, e_icmp_gt, e_if_le, e_icmp_le, e_if_ne, e_icmp_ne, e_ifnull, e_ifnonnull, e_acmp_ne, e_getI, e_getL, e_getR, e_putI, e_putZ, e_putL, e_putR, e_iald, e_iast, e_zald, e_zast, e_lald, e_last, e_dald, e_dast, e_aald, e_aast, e_new, e_newa, e_newq, e_ret0, e_iret, e_zret, e_lret, e_aret, e_obj, e_acpL, e_acpD, e_max, e_d2b, e_b2d, e_sld, e_slen, e_lawret, e_place, e_tsw, xsw, xKn_i, xKn_0, if_false, if_true, eq_self, Nat.zero_add, exists_eq', exists_eq, true_or, or_true, List.length_cons, List.length_nil, Nat.le_refl, Nat.zero_le, Nat.sub_zero, xent, xcat, List.lookup, beq_self_eq_true, Nat.reduceBEq, xst1, xst2, List.filter, Bool.not_true, Bool.not_false, Bool.and_true, Bool.true_and, Bool.and_false, Bool.false_and, xsum, List.map, List.sum_cons, List.sum_nil, List.drop, List.take, List.reverse, List.reverseAux, Option.toList, List.cons_append, List.nil_append, Nat.reduceAdd, Nat.reduceSub, Nat.reduceLeDiff, Nat.reduceEqDiff, true_and, and_true, exists_eq_left', Option.some.injEq, exists_eq_left, List.getElem?_cons_zero, List.getElem?_cons_succ, Prod.mk.injEq, Sum.inr.injEq, gI_sI, gI_sL, gI_sD, gI_sR, gI_nO, gI_cL, gI_cD, gL_sI, gL_sL, gL_sD, gL_sR, gL_nO, gL_cL, gL_cD, gD_sI, gD_sL, gD_sD, gD_sR, gD_nO, gD_cL, gD_cD, gR_sI, gR_sL, gR_sD, gR_sR, gR_nO, gR_cL, gR_cD, gV_sI, gV_sL, gV_sD, gV_sR, gV_nO, gV_cL, gV_cD, gV_nO_mono, y_ltI, y_leI, y_eqI, y_ltl, y_lel, y_eql, y_lle, y_llt, y_leq, y_m1, y_neg, y_nn, y_cl, y_in, y_add, y_addl, y_ladd, y_mul, y_mull, y_lmul, y_subl, y_sub, y_am1, y_divl, y_reml, y_10, y_mod, reduceCtorEq, Nat.reduceDiv, Nat.reduceMul, Nat.reduceMod, Nat.reduceLT, Nat.reduceEqDiff, Int32.reduceLT, Int32.reduceLE, Int32.reduceSub, Int32.reduceAdd, false_and, and_false, true_and, and_true, and_self, not_true_eq_false, not_false_eq_true, true_implies, false_implies, implies_true, ite_self, ne_eq, forall_eq, forall_const, if_false, if_true, ite_false, ite_true, BX6_firstWithActs_2]
        exact hp
      | some c => have := (hq c rfl).2; omega
    | succ a ih =>
      intro q hq hp
      refine hX.2 _ _ _ _ _ ?_
      cases q with
      | none =>
        simp (disch := omega) only [e_callV, e_callS, e_callW, e_goto, e_ci, e_cl, e_cd, e_null, e_iadd, e_isub, e_imul, e_iand, e_ishr, e_idiv, e_irem, e_ineg, e_ladd, e_lsub, e_lor, e_land, e_ldiv, e_lshl, e_lshr, e_i2l, e_l2i, e_i2b, e_i2d, e_l2d, e_d2l, e_dneg, e_dadd, e_dmul, e_ddiv, e_lcmp, e_dcmpl, e_dcmpg, e_dup, e_dup2, e_pop, e_ild, e_lld, e_dld, e_ald, e_ist, e_lst, e_dst, e_ast, e_iinc, e_if_eq, e_icmp_eq, e_if_lt, e_icmp_lt, e_if_ge, e_icmp_ge, e_if_gt, e_icmp_gt, e_if_le, e_icmp_le, e_if_ne, e_icmp_ne, e_ifnull, e_ifnonnull, e_acmp_ne, e_getI, e_getL, e_getR, e_putI, e_putZ, e_putL, e_putR, e_iald, e_iast, e_zald, e_zast, e_lald, e_last, e_dald, e_dast, e_aald, e_aast, e_new, e_newa, e_newq, e_ret0, e_iret, e_zret, e_lret, e_aret, e_obj, e_acpL, e_acpD, e_max, e_d2b, e_b2d, e_sld, e_slen, e_lawret, e_place, e_tsw, xsw, xKn_i, xKn_0, if_false, if_true, eq_self, Nat.zero_add, exists_eq', exists_eq, true_or, or_true, List.length_cons, List.length_nil, Nat.le_refl, Nat.zero_le, Nat.sub_zero, xent, xcat, List.lookup, beq_self_eq_true, Nat.reduceBEq, xst1, xst2, List.filter, Bool.not_true, Bool.not_false, Bool.and_true, Bool.true_and, Bool.and_false, Bool.false_and, xsum, List.map, List.sum_cons, List.sum_nil, List.drop, List.take, List.reverse, List.reverseAux, Option.toList, List.cons_append, List.nil_append, Nat.reduceAdd, Nat.reduceSub, Nat.reduceLeDiff, Nat.reduceEqDiff, true_and, and_true, exists_eq_left', Option.some.injEq, exists_eq_left, List.getElem?_cons_zero, List.getElem?_cons_succ, Prod.mk.injEq, Sum.inr.injEq, gI_sI, gI_sL, gI_sD, gI_sR, gI_nO, gI_cL, gI_cD, gL_sI, gL_sL, gL_sD, gL_sR, gL_nO, gL_cL, gL_cD, gD_sI, gD_sL, gD_sD, gD_sR, gD_nO, gD_cL, gD_cD, gR_sI, gR_sL, gR_sD, gR_sR, gR_nO, gR_cL, gR_cD, gV_sI, gV_sL, gV_sD, gV_sR, gV_nO, gV_cL, gV_cD, gV_nO_mono, y_ltI, y_leI, y_eqI, y_ltl, y_lel, y_eql, y_lle, y_llt, y_leq, y_m1, y_neg, y_nn, y_cl, y_in, y_add, y_addl, y_ladd, y_mul, y_mull, y_lmul, y_subl, y_sub, y_am1, y_divl, y_reml, y_10, y_mod, reduceCtorEq, Nat.reduceDiv, Nat.reduceMul, Nat.reduceMod, Nat.reduceLT, Nat.reduceEqDiff, Int32.reduceLT, Int32.reduceLE, Int32.reduceSub, Int32.reduceAdd, false_and, and_false, true_and, and_true, and_self, not_true_eq_false, not_false_eq_true, true_implies, false_implies, implies_true, ite_self, ne_eq, forall_eq, forall_const, if_false, if_true, ite_false, ite_true, BX6_firstWithActs_2]
        exact hp
      | some c =>
        obtain ⟨hc, ha⟩ := hq c rfl
        obtain ⟨f, hof, hf, -⟩ := the_off hI.2.1 hc
        obtain ⟨q1, q2, q3, q4, q5, q6, q7, q8, -⟩ := hK.2.2.2 c f hof
        have h5 := hI.1.2.2.2.2.2.2.1 f m
        simp (disch := omega) only [e_callV, e_callS, e_callW, e_goto, e_ci, e_cl, e_cd, e_null, e_iadd, e_isub, e_imul, e_iand, e_ishr, e_idiv, e_irem, e_ineg, e_ladd, e_lsub, e_lor, e_land, e_ldiv, e_lshl, e_lshr, e_i2l, e_l2i, e_i2b, e_i2d, e_l2d, e_d2l, e_dneg, e_dadd, e_dmul, e_ddiv, e_lcmp, e_dcmpl, e_dcmpg, e_dup, e_dup2, e_pop, e_ild, e_lld, e_dld, e_ald, e_ist, e_lst, e_dst, e_ast, e_iinc, e_if_eq, e_icmp_eq, e_if_lt, e_icmp_lt, e_if_ge, e_icmp_ge, e_if_gt, e_icmp_gt, e_if_le, e_icmp_le, e_if_ne, e_icmp_ne, e_ifnull, e_ifnonnull, e_acmp_ne, e_getI, e_getL, e_getR, e_putI, e_putZ, e_putL, e_putR, e_iald, e_iast, e_zald, e_zast, e_lald, e_last, e_dald, e_dast, e_aald, e_aast, e_new, e_newa, e_newq, e_ret0, e_iret, e_zret, e_lret, e_aret, e_obj, e_acpL, e_acpD, e_max, e_d2b, e_b2d, e_sld, e_slen, e_lawret, e_place, e_tsw, xsw, xKn_i, xKn_0, if_false, if_true, eq_self, Nat.zero_add, exists_eq', exists_eq, true_or, or_true, List.length_cons, List.length_nil, Nat.le_refl, Nat.zero_le, Nat.sub_zero, xent, xcat, List.lookup, beq_self_eq_true, Nat.reduceBEq, xst1, xst2, List.filter, Bool.not_true, Bool.not_false, Bool.and_true, Bool.true_and, Bool.and_false, Bool.false_and, xsum, List.map, List.sum_cons, List.sum_nil, List.drop, List.take, List.reverse, List.reverseAux, Option.toList, List.cons_append, List.nil_append, Nat.reduceAdd, Nat.reduceSub, Nat.reduceLeDiff, Nat.reduceEqDiff, true_and, and_true, exists_eq_left', Option.some.injEq, exists_eq_left, List.getElem?_cons_zero, List.getElem?_cons_succ, Prod.mk.injEq, Sum.inr.injEq, gI_sI, gI_sL, gI_sD, gI_sR, gI_nO, gI_cL, gI_cD, gL_sI, gL_sL, gL_sD, gL_sR, gL_nO, gL_cL, gL_cD, gD_sI, gD_sL, gD_sD, gD_sR, gD_nO, gD_cL, gD_cD, gR_sI, gR_sL, gR_sD, gR_sR, gR_nO, gR_cL, gR_cD, gV_sI, gV_sL, gV_sD, gV_sR, gV_nO, gV_cL, gV_cD, gV_nO_mono, y_ltI, y_leI, y_eqI, y_ltl, y_lel, y_eql, y_lle, y_llt, y_leq, y_m1, y_neg, y_nn, y_cl, y_in, y_add, y_addl, y_ladd, y_mul, y_mull, y_lmul, y_subl, y_sub, y_am1, y_divl, y_reml, y_10, y_mod, reduceCtorEq, Nat.reduceDiv, Nat.reduceMul, Nat.reduceMod, Nat.reduceLT, Nat.reduceEqDiff, Int32.reduceLT, Int32.reduceLE, Int32.reduceSub, Int32.reduceAdd, false_and, and_false, true_and, and_true, and_self, not_true_eq_false, not_false_eq_true, true_implies, false_implies, implies_true, ite_self, ne_eq, forall_eq, forall_const, if_false, if_true, ite_false, ite_true, BX6_firstWithActs_2, q3]
        refine v_X0_actCount hK.2.1 hf hm ?_
        have e : hvO σ m (some c) = if 0 < z_acn σ f m then some c else hvO σ m (z_sp σ c) := by
          show hvn σ m 13 c = _
          rw [hvn_sp hI.2.2 hc, filO_eq hof]
        rw [e] at hp
        simp (disch := omega) only [e_callV, e_callS, e_callW, e_goto, e_ci, e_cl, e_cd, e_null, e_iadd, e_isub, e_imul, e_iand, e_ishr, e_idiv, e_irem, e_ineg, e_ladd, e_lsub, e_lor, e_land, e_ldiv, e_lshl, e_lshr, e_i2l, e_l2i, e_i2b, e_i2d, e_l2d, e_d2l, e_dneg, e_dadd, e_dmul, e_ddiv, e_lcmp, e_dcmpl, e_dcmpg, e_dup, e_dup2, e_pop, e_ild, e_lld, e_dld, e_ald, e_ist, e_lst, e_dst, e_ast, e_iinc, e_if_eq, e_icmp_eq, e_if_lt, e_icmp_lt, e_if_ge, e_icmp_ge, e_if_gt, e_icmp_gt, e_if_le, e_icmp_le, e_if_ne, e_icmp_ne, e_ifnull, e_ifnonnull, e_acmp_ne, e_getI, e_getL, e_getR, e_putI, e_putZ, e_putL, e_putR, e_iald, e_iast, e_zald, e_zast, e_lald, e_last, e_dald, e_dast, e_aald, e_aast, e_new, e_newa, e_newq, e_ret0, e_iret, e_zret, e_lret, e_aret, e_obj, e_acpL, e_acpD, e_max, e_d2b, e_b2d, e_sld, e_slen, e_lawret, e_place, e_tsw, xsw, xKn_i, xKn_0, if_false, if_true, eq_self, Nat.zero_add, exists_eq', exists_eq, true_or, or_true, List.length_cons, List.length_nil, Nat.le_refl, Nat.zero_le, Nat.sub_zero, xent, xcat, List.lookup, beq_self_eq_true, Nat.reduceBEq, xst1, xst2, List.filter, Bool.not_true, Bool.not_false, Bool.and_true, Bool.true_and, Bool.and_false, Bool.false_and, xsum, List.map, List.sum_cons, List.sum_nil, List.drop, List.take, List.reverse, List.reverseAux, Option.toList, List.cons_append, List.nil_append, Nat.reduceAdd, Nat.reduceSub, Nat.reduceLeDiff, Nat.reduceEqDiff, true_and, and_true, exists_eq_left', Option.some.injEq, exists_eq_left, List.getElem?_cons_zero, List.getElem?_cons_succ, Prod.mk.injEq, Sum.inr.injEq, gI_sI, gI_sL, gI_sD, gI_sR, gI_nO, gI_cL, gI_cD, gL_sI, gL_sL, gL_sD, gL_sR, gL_nO, gL_cL, gL_cD, gD_sI, gD_sL, gD_sD, gD_sR, gD_nO, gD_cL, gD_cD, gR_sI, gR_sL, gR_sD, gR_sR, gR_nO, gR_cL, gR_cD, gV_sI, gV_sL, gV_sD, gV_sR, gV_nO, gV_cL, gV_cD, gV_nO_mono, y_ltI, y_leI, y_eqI, y_ltl, y_lel, y_eql, y_lle, y_llt, y_leq, y_m1, y_neg, y_nn, y_cl, y_in, y_add, y_addl, y_ladd, y_mul, y_mull, y_lmul, y_subl, y_sub, y_am1, y_divl, y_reml, y_10, y_mod, reduceCtorEq, Nat.reduceDiv, Nat.reduceMul, Nat.reduceMod, Nat.reduceLT, Nat.reduceEqDiff, Int32.reduceLT, Int32.reduceLE, Int32.reduceSub, Int32.reduceAdd, false_and, and_false, true_and, and_true, and_self, not_true_eq_false, not_false_eq_true, true_implies, false_implies, implies_true, ite_self, ne_eq, forall_eq, forall_const, if_false, if_true, ite_false, ite_true, q8]
        refine ⟨fun z => ?_, fun z => ?_⟩
        · rw [if_neg (by omega)] at hp
          refine ih _ (fun s hs => ?_) hp
          obtain ⟨w1, w2⟩ := IT_sp hI.2.2 hc hs
          exact ⟨w1, by omega⟩
        · rw [if_pos (by omega)] at hp
          exact hp
  simp (disch := omega) only [e_callV, e_callS, e_callW, e_goto, e_ci, e_cl, e_cd, e_null, e_iadd, e_isub, e_imul, e_iand, e_ishr, e_idiv, e_irem, e_ineg, e_ladd, e_lsub, e_lor, e_land, e_ldiv, e_lshl, e_lshr, e_i2l, e_l2i, e_i2b, e_i2d, e_l2d, e_d2l, e_dneg, e_dadd, e_dmul, e_ddiv, e_lcmp, e_dcmpl, e_dcmpg, e_dup, e_dup2, e_pop, e_ild, e_lld, e_dld, e_ald, e_ist, e_lst, e_dst, e_ast, e_iinc, e_if_eq, e_icmp_eq, e_if_lt, e_icmp_lt, e_if_ge, e_icmp_ge, e_if_gt, e_icmp_gt, e_if_le, e_icmp_le, e_if_ne, e_icmp_ne, e_ifnull, e_ifnonnull, e_acmp_ne, e_getI, e_getL, e_getR, e_putI, e_putZ, e_putL, e_putR, e_iald, e_iast, e_zald, e_zast, e_lald, e_last, e_dald, e_dast, e_aald, e_aast, e_new, e_newa, e_newq, e_ret0, e_iret, e_zret, e_lret, e_aret, e_obj, e_acpL, e_acpD, e_max, e_d2b, e_b2d, e_sld, e_slen, e_lawret, e_place, e_tsw, xsw, xKn_i, xKn_0, if_false, if_true, eq_self, Nat.zero_add, exists_eq', exists_eq, true_or, or_true, List.length_cons, List.length_nil, Nat.le_refl, Nat.zero_le, Nat.sub_zero, xent, xcat, List.lookup, beq_self_eq_true, Nat.reduceBEq, xst1, xst2, List.filter, Bool.not_true, Bool.not_false, Bool.and_true, Bool.true_and, Bool.and_false, Bool.false_and, xsum, List.map, List.sum_cons, List.sum_nil, List.drop, List.take, List.reverse, List.reverseAux, Option.toList, List.cons_append, List.nil_append, Nat.reduceAdd, Nat.reduceSub, Nat.reduceLeDiff, Nat.reduceEqDiff, true_and, and_true, exists_eq_left', Option.some.injEq, exists_eq_left, List.getElem?_cons_zero, List.getElem?_cons_succ, Prod.mk.injEq, Sum.inr.injEq, gI_sI, gI_sL, gI_sD, gI_sR, gI_nO, gI_cL, gI_cD, gL_sI, gL_sL, gL_sD, gL_sR, gL_nO, gL_cL, gL_cD, gD_sI, gD_sL, gD_sD, gD_sR, gD_nO, gD_cL, gD_cD, gR_sI, gR_sL, gR_sD, gR_sR, gR_nO, gR_cL, gR_cD, gV_sI, gV_sL, gV_sD, gV_sR, gV_nO, gV_cL, gV_cD, gV_nO_mono, y_ltI, y_leI, y_eqI, y_ltl, y_lel, y_eql, y_lle, y_llt, y_leq, y_m1, y_neg, y_nn, y_cl, y_in, y_add, y_addl, y_ladd, y_mul, y_mull, y_lmul, y_subl, y_sub, y_am1, y_divl, y_reml, y_10, y_mod, reduceCtorEq, Nat.reduceDiv, Nat.reduceMul, Nat.reduceMod, Nat.reduceLT, Nat.reduceEqDiff, Int32.reduceLT, Int32.reduceLE, Int32.reduceSub, Int32.reduceAdd, false_and, and_false, true_and, and_true, and_self, not_true_eq_false, not_false_eq_true, true_implies, false_implies, implies_true, ite_self, ne_eq, forall_eq, forall_const, if_false, if_true, ite_false, ite_true, BX6_firstWithActs_0]
  refine loop 13 o (fun c hc => ⟨ho c hc, ?_⟩) h
  have := (hI.2.2 c (ho c hc)).2.2.2.1
  omega
