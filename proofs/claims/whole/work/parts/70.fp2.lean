/-! PURE: the bits of a double, as the class makes them. -/
def dE (s : Bool) (L c : Nat) : UInt64 := UInt64.ofNat (enN s L c)
theorem dE_nat {s : Bool} {L c : Nat} (h1 : 2 ^ 52 ≤ c) (h2 : c < 2 ^ 53) (hL : L ≤ 900) : (dE s L c).toNat = enN s L c := by
  unfold dE
  rw [UInt64.toNat_ofNat', Nat.mod_eq_of_lt (enN_lt h1 h2 hL)]
theorem dE_of {x : UInt64} {s : Bool} {L c : Nat} (h : x.toNat = enN s L c) : x = dE s L c := by
  unfold dE
  rw [← h, UInt64.ofNat_toNat]
theorem fp_inpos {c : Nat} (q e : Int) (h : 0 < c) : 0 < FP.Core.inUnits c q e := by
  unfold FP.Core.inUnits
  exact Nat.mul_pos h (Nat.two_pow_pos _)
theorem fp_cmp0 {s : Bool} {L c : Nat} (h1 : 2 ^ 52 ≤ c) (h2 : c < 2 ^ 53) (hL : L ≤ 900) : FP.dcmp (dE s L c) FP.dconst0 = some (if s = true then .lt else .gt) := by
  show FP.Core.cmp FP.Core.b64 (dE s L c).toNat FP.dconst0.toNat = _
  rw [dE_nat h1 h2 hL, show FP.dconst0.toNat = 0 from rfl]
  unfold FP.Core.cmp
  rw [fp_decode h1 h2 hL, fp_decode0]
  unfold FP.Core.order
  dsimp only
  have hp := fp_inpos ((L : Int) - 52) (min ((L : Int) - 52) (-1074)) (show 0 < c by omega)
  have e0 : FP.Core.signed false (FP.Core.inUnits 0 (-1074) (min ((L : Int) - 52) (-1074))) = 0 := by
    unfold FP.Core.inUnits FP.Core.signed
    simp
  rw [e0]
  congr 1
  cases s with
  | true =>
    rw [if_pos rfl]
    unfold FP.Core.signed
    rw [if_pos rfl]
    show compareOfLessAndEq _ _ = _
    unfold compareOfLessAndEq
    rw [if_pos (by omega)]
  | false =>
    rw [if_neg (by decide)]
    unfold FP.Core.signed
    rw [if_neg (by decide)]
    show compareOfLessAndEq _ _ = _
    unfold compareOfLessAndEq
    rw [if_neg (by omega), if_neg (by omega)]
theorem fp_cmp00 : FP.dcmp 0 FP.dconst0 = some .eq := by decide +kernel
theorem fp_two : (4611686018427387904 : UInt64) = dE false 1 (2 ^ 52) := by decide +kernel
theorem fp_52 : (4841369599423283200 : UInt64) = dE false 52 (2 ^ 52) := by decide +kernel
theorem cmp_lt {a b : Nat} (h : a < b) : compare (a : Int) (b : Int) = .lt := by
  show compareOfLessAndEq (a : Int) (b : Int) = .lt
  unfold compareOfLessAndEq
  rw [if_pos (Int.ofNat_lt.mpr h)]
theorem cmp_nlt {a b : Nat} (h : b ≤ a) : ¬ compare (a : Int) (b : Int) = .lt := by
  show ¬ compareOfLessAndEq (a : Int) (b : Int) = .lt
  unfold compareOfLessAndEq
  rw [if_neg (by omega)]
  split <;> exact fun z => by cases z
theorem fp_signedF (c : Nat) : FP.Core.signed false c = (c : Int) := rfl
theorem fp_cmp2a {c : Nat} (h1 : 2 ^ 52 ≤ c) (h2 : c < 2 ^ 53) : FP.dcmp (dE false 0 c) 4611686018427387904 = some .lt := by
  rw [fp_two]
  show FP.Core.cmp FP.Core.b64 (dE false 0 c).toNat (dE false 1 (2 ^ 52)).toNat = _
  rw [dE_nat h1 h2 (by omega), dE_nat (by omega) (by omega) (by omega)]
  unfold FP.Core.cmp
  rw [fp_decode h1 h2 (by omega), fp_decode (by omega) (by omega) (by omega)]
  unfold FP.Core.order
  dsimp only
  have e : min (((0 : Nat) : Int) - 52) (((1 : Nat) : Int) - 52) = -52 := by omega
  rw [e]
  have a1 : FP.Core.inUnits c (((0 : Nat) : Int) - 52) (-52) = c := by
    unfold FP.Core.inUnits
    rw [show (((0 : Nat) : Int) - 52 - -52).toNat = 0 by omega, Nat.pow_zero, Nat.mul_one]
  have a2 : FP.Core.inUnits (2 ^ 52) (((1 : Nat) : Int) - 52) (-52) = 2 ^ 53 := by
    unfold FP.Core.inUnits
    rw [show (((1 : Nat) : Int) - 52 - -52).toNat = 1 by omega]
  rw [a1, a2, fp_signedF, fp_signedF, cmp_lt (by omega)]
theorem fp_cmp2b {L c : Nat} (h1 : 2 ^ 52 ≤ c) (h2 : c < 2 ^ 53) (hL : L ≤ 800) : ¬ FP.dcmp (dE false (L + 1) c) 4611686018427387904 = some .lt ∧ ¬ FP.dcmp (dE false (L + 1) c) 4611686018427387904 = none := by
  rw [fp_two]
  have e0 : FP.dcmp (dE false (L + 1) c) (dE false 1 (2 ^ 52)) = FP.Core.cmp FP.Core.b64 (dE false (L + 1) c).toNat (dE false 1 (2 ^ 52)).toNat := rfl
  rw [e0, dE_nat h1 h2 (by omega), dE_nat (by omega) (by omega) (by omega)]
  unfold FP.Core.cmp
  rw [fp_decode h1 h2 (by omega), fp_decode (by omega) (by omega) (by omega)]
  unfold FP.Core.order
  dsimp only
  have e : min (((L + 1 : Nat) : Int) - 52) (((1 : Nat) : Int) - 52) = -51 := by omega
  rw [e]
  have a1 : 2 ^ 52 ≤ FP.Core.inUnits c (((L + 1 : Nat) : Int) - 52) (-51) := by
    unfold FP.Core.inUnits
    have := Nat.mul_le_mul h1 (Nat.two_pow_pos (((L + 1 : Nat) : Int) - 52 - -51).toNat)
    omega
  have a2 : FP.Core.inUnits (2 ^ 52) (((1 : Nat) : Int) - 52) (-51) = 2 ^ 52 := by
    unfold FP.Core.inUnits
    rw [show (((1 : Nat) : Int) - 52 - -51).toNat = 0 by omega, Nat.pow_zero, Nat.mul_one]
  rw [a2, fp_signedF, fp_signedF]
  have n1 := cmp_nlt a1
  exact ⟨fun z => n1 (Option.some.inj z), fun z => by cases z⟩
theorem fp_half {L c : Nat} (h1 : 2 ^ 52 ≤ c) (h2 : c < 2 ^ 53) (hL : L ≤ 800) : FP.ddiv (dE false (L + 1) c) 4611686018427387904 = dE false L c := by
  rw [fp_two]
  show UInt64.ofNat (FP.Core.div FP.Core.b64 (dE false (L + 1) c).toNat (dE false 1 (2 ^ 52)).toNat) = _
  rw [dE_nat h1 h2 (by omega), dE_nat (by omega) (by omega) (by omega)]
  unfold FP.Core.div
  rw [fp_decode h1 h2 (by omega), fp_decode (by omega) (by omega) (by omega)]
  unfold FP.Core.quotient
  dsimp only
  rw [if_neg (by decide)]
  have eq : ((L + 1 : Nat) : Int) - 52 - (((1 : Nat) : Int) - 52) = (L : Int) := by omega
  rw [eq]
  have hl : FP.Core.leading c (2 ^ 52) = 0 := by
    unfold FP.Core.leading
    have l1 : c.log2 = 52 := (Nat.log2_eq_iff (by omega)).mpr ⟨h1, h2⟩
    have l2 : (2 ^ 52 : Nat).log2 = 52 := Nat.log2_two_pow
    rw [l1, l2]
    dsimp only
    rw [if_pos (by simpa using h1)]
    omega
  have hq : FP.Core.quantum FP.Core.b64 c (2 ^ 52) (L : Int) = (L : Int) - 52 := by
    unfold FP.Core.quantum
    rw [hl, fp_qmin, fp_p]
    omega
  have hr : FP.Core.roundRatio FP.Core.b64 (false != false) c (2 ^ 52) (L : Int) = .fin false c ((L : Int) - 52) := by
    unfold FP.Core.roundRatio
    rw [if_neg (by omega), hq]
    unfold FP.Core.roundAt FP.Core.unitsNum FP.Core.unitsDen
    rw [show ((L : Int) - ((L : Int) - 52)).toNat = 52 by omega, show ((L : Int) - 52 - (L : Int)).toNat = 0 by omega, Nat.pow_zero, Nat.mul_one]
    have e3 := fp_near_scale c 1 (2 ^ 52) (Nat.two_pow_pos 52)
    rw [Nat.one_mul, fp_near_1] at e3
    rw [e3]
    unfold FP.Core.settle
    rw [fp_p, if_pos h2]
    unfold FP.Core.bound
    rw [fp_qmax, if_pos (by omega)]
    rfl
  rw [hr, fp_encode h1]
  rfl
theorem fp_scaleup {c : Nat} (h1 : 2 ^ 52 ≤ c) (h2 : c < 2 ^ 53) : FP.dmul (dE false 0 c) 4841369599423283200 = dE false 52 c := by
  rw [fp_52]
  show UInt64.ofNat (FP.Core.mul FP.Core.b64 (dE false 0 c).toNat (dE false 52 (2 ^ 52)).toNat) = _
  rw [dE_nat h1 h2 (by omega), dE_nat (by omega) (by omega) (by omega)]
  unfold FP.Core.mul
  rw [fp_decode h1 h2 (by omega), fp_decode (by omega) (by omega) (by omega)]
  unfold FP.Core.exactProduct FP.Core.round
  dsimp only
  have eq : ((0 : Nat) : Int) - 52 + (((52 : Nat) : Int) - 52) = -((52 : Nat) : Int) := by omega
  rw [eq, fp_scale _ 52 (by omega)]
  obtain ⟨L, c', q1, q2, q3, q4, q5, q6, q7⟩ := fp_round (V := c) (by omega) (by omega)
  have l1 : c.log2 = 52 := (Nat.log2_eq_iff (by omega)).mpr ⟨h1, h2⟩
  obtain ⟨e1, e2⟩ := q7 (by omega)
  rw [l1] at e1 e2
  rw [Nat.sub_self, Nat.pow_zero, Nat.mul_one] at e2
  rw [q1, e1, e2, fp_encode h1]
  rfl
theorem fp_trunc {c : Nat} (h1 : 2 ^ 52 ≤ c) (h2 : c < 2 ^ 53) : FP.d2l (dE false 52 c) = Int64.ofNat c := by
  show FP.Core.toL (FP.Core.decode FP.Core.b64 (dE false 52 c).toNat) = _
  rw [dE_nat h1 h2 (by omega), fp_decode h1 h2 (by omega)]
  unfold FP.Core.toL FP.Core.toInt FP.Core.truncate FP.Core.signed
  dsimp only
  rw [if_neg (by decide), show (((52 : Nat) : Int) - 52).toNat = 0 by omega, show (-(((52 : Nat) : Int) - 52)).toNat = 0 by omega, Nat.pow_zero, Nat.mul_one, Nat.div_one]
  have e : max (-2 ^ 63 : Int) (min (2 ^ 63 - 1) (c : Int)) = (c : Int) := by omega
  rw [e]
  rfl
theorem fp_xor {m : Nat} (h : m < 2 ^ 63) : (m + 2 ^ 63) ^^^ 2 ^ 63 = m := by
  have h1 : ((m + 2 ^ 63) ^^^ 2 ^ 63) % 2 ^ 63 = m := by
    rw [Nat.xor_mod_two_pow, Nat.mod_self, Nat.xor_zero, Nat.add_mod_right]
    exact Nat.mod_eq_of_lt h
  have h2 : ((m + 2 ^ 63) ^^^ 2 ^ 63) / 2 ^ 63 = 0 := by
    rw [Nat.xor_div_two_pow, Nat.div_self (Nat.two_pow_pos 63), Nat.add_div_right m (Nat.two_pow_pos 63), Nat.div_eq_of_lt h]
    rfl
  have h3 := Nat.div_add_mod ((m + 2 ^ 63) ^^^ 2 ^ 63) (2 ^ 63)
  rw [h1, h2] at h3
  omega
theorem enF_lt {L c : Nat} (h1 : 2 ^ 52 ≤ c) (h2 : c < 2 ^ 53) (hL : L ≤ 900) : enN false L c < 2 ^ 63 := by
  unfold enN
  have a2 : false.toNat = 0 := rfl
  rw [a2]
  omega
theorem y_m10 : ((-1 : Int32) = 0) = False := by decide
theorem fp_neg {L c : Nat} (h1 : 2 ^ 52 ≤ c) (h2 : c < 2 ^ 53) (hL : L ≤ 900) : FP.dneg (dE true L c) = dE false L c := by
  show dE true L c ^^^ 0x8000000000000000 = _
  have hlt := enN_lt (s := true) h1 h2 hL
  have e0 : enN true L c = enN false L c + 2 ^ 63 := by
    unfold enN
    have a1 : true.toNat = 1 := rfl
    have a2 : false.toNat = 0 := rfl
    rw [a1, a2]
    omega
  apply UInt64.toNat_inj.mp
  rw [UInt64.toNat_xor, dE_nat h1 h2 hL, dE_nat h1 h2 hL, show (0x8000000000000000 : UInt64).toNat = 2 ^ 63 from rfl, e0, fp_xor (enF_lt h1 h2 hL)]
theorem vf_dE {s : Bool} {L c : Nat} (h1 : 2 ^ 52 ≤ c) (h2 : c < 2 ^ 53) (hL : L ≤ 900) : vf_n64 (dE s L c) := by
  have hs : s.toNat ≤ 1 := by cases s <;> decide
  unfold vf_n64
  rw [UInt64.le_iff_toNat_le, UInt64.toNat_and, dE_nat h1 h2 hL]
  have e1 : (0x7fffffffffffffff : UInt64).toNat = 2 ^ 63 - 1 := rfl
  have e2 : (0x7ff0000000000000 : UInt64).toNat = 2047 * 2 ^ 52 := rfl
  rw [e1, e2, Nat.and_two_pow_sub_one_eq_mod]
  unfold enN
  omega
theorem fp_join {s : Bool} {L c : Nat} (h1 : 2 ^ 52 ≤ c) (h2 : c < 2 ^ 53) (hL : L ≤ 900) {x : Int64} (hx : x.toUInt64.toNat = enN s L c) {sg : Int64} (hs : sg = if s = true then -9223372036854775808 else 0) : (sg ||| Int64.ofNat (1023 + L) <<< ((52 : Int32).toInt64 &&& 63)) ||| (Int64.ofNat c - 4503599627370496) = x := by
  have e1 : (Int64.ofNat c - 4503599627370496) = Int64.ofNat (c - 2 ^ 52) := by
    obtain ⟨d, rfl⟩ := Nat.exists_eq_add_of_le h1
    rw [Int64.ofNat_add, Nat.add_sub_cancel_left]
    show Int64.ofNat (2 ^ 52) + Int64.ofNat d - 4503599627370496 = _
    rw [Int64.add_comm, show (4503599627370496 : Int64) = Int64.ofNat (2 ^ 52) from rfl, Int64.add_sub_cancel]
  have e2 : ((Int64.ofNat (1023 + L) <<< ((52 : Int32).toInt64 &&& 63)).toBitVec).toNat = (1023 + L) * 2 ^ 52 := by
    rw [Int64.toBitVec_shiftLeft]
    have e3 : ((((52 : Int32).toInt64 &&& 63 : Int64).toBitVec).smod 64) = 52#64 := by decide +kernel
    rw [e3, BitVec.shiftLeft_eq', BitVec.toNat_shiftLeft]
    have e4 : (Int64.ofNat (1023 + L)).toBitVec.toNat = 1023 + L := by
      show (BitVec.ofNat 64 (1023 + L)).toNat = _
      rw [BitVec.toNat_ofNat]
      omega
    rw [e4, Nat.shiftLeft_eq]
    have e5 : (52#64).toNat = 52 := rfl
    rw [e5]
    omega
  have e6 : (Int64.ofNat (c - 2 ^ 52)).toBitVec.toNat = c - 2 ^ 52 := by
    show (BitVec.ofNat 64 (c - 2 ^ 52)).toNat = _
    rw [BitVec.toNat_ofNat]
    omega
  have e7 : sg.toBitVec.toNat = s.toNat * 2 ^ 63 := by
    rw [hs]
    cases s <;> rfl
  have hsn : s.toNat ≤ 1 := by cases s <;> decide
  apply Int64.toBitVec_inj.mp
  apply BitVec.eq_of_toNat_eq
  rw [e1, Int64.toBitVec_or, Int64.toBitVec_or, BitVec.toNat_or, BitVec.toNat_or, e2, e6, e7]
  have a1 : s.toNat * 2 ^ 63 ||| (1023 + L) * 2 ^ 52 = 2 ^ 63 * s.toNat + (1023 + L) * 2 ^ 52 := by
    rw [Nat.mul_comm, ← Nat.two_pow_add_eq_or_of_lt (by omega)]
  have a2 : 2 ^ 63 * s.toNat + (1023 + L) * 2 ^ 52 = 2 ^ 52 * (2 ^ 11 * s.toNat + (1023 + L)) := by omega
  rw [a1, a2, ← Nat.two_pow_add_eq_or_of_lt (by omega)]
  have a3 : x.toBitVec.toNat = enN s L c := hx
  rw [a3]
  unfold enN
  omega
theorem cv_lt : Op.cmpValue (some .lt) .l = -1 := rfl
theorem cv_eq : Op.cmpValue (some .eq) .l = 0 := rfl
theorem cv_gt : Op.cmpValue (some .gt) .l = 1 := rfl
theorem cw_lt : Op.cmpValue (some .lt) .g = -1 := rfl
theorem cw_gt : Op.cmpValue (some .gt) .g = 1 := rfl
theorem bo_ge {m c : Nat} (h1 : 2 ^ 52 ≤ c) (h2 : c < 2 ^ 53) (hL : m ≤ 800) : ¬ Op.cmpValue (FP.dcmp (dE false (m + 1) c) 4611686018427387904) .l < 0 := by
  obtain ⟨n1, n2⟩ := fp_cmp2b (L := m) h1 h2 hL
  cases e : FP.dcmp (dE false (m + 1) c) 4611686018427387904 with
  | none => exact absurd e n2
  | some o =>
    cases o with
    | lt => exact absurd e n1
    | eq => decide
    | gt => decide
theorem bo_lt {k : Nat} (h : k < 100) : ¬ 0 ≤ lg_cmp (Int64.ofNat (1023 + k)) 2046 := by
  rw [lg_cmp_ge]
  have : ∀ k, k < 100 → ¬ (2046 : Int64) ≤ Int64.ofNat (1023 + k) := by decide +kernel
  exact this k h
theorem bo_s (k : Nat) : Int64.ofNat (1023 + k) + 1 = Int64.ofNat (1023 + (k + 1)) := by
  rw [← Nat.add_assoc, Int64.ofNat_add (1023 + k) 1]
  rfl
theorem bo_0 : (1023 : Int64) = Int64.ofNat (1023 + 0) := rfl
theorem bo_fin {l : Launch} {D : DX} {b0 : Nat} {M : XM} {post : XM → Option XV → Prop} {X : Nat → XK} (hX : CLX7_bitsOf l D b0 X post) {s : Bool} {L c : Nat} (h1 : 2 ^ 52 ≤ c) (h2 : c < 2 ^ 53) (hL : L ≤ 85) {x : Int64} (hx : x.toUInt64.toNat = enN s L c) (hp : post M (some (vL x))) : X 26 [(4, vL (Int64.ofNat (1023 + L))), (2, vD (dE false 0 c)), (0, vD (dE s L c))] [] M 0 0 := by
  refine hX.2 _ _ _ _ _ ?_
  have c0 := fp_cmp0 (s := s) h1 h2 (L := L) (by omega)
  have v1 := vf_dE (s := false) (L := 52) h1 h2 (by omega)
  simp (disch := omega) only [e_callV, e_callS, e_callW, e_goto, e_ci, e_cl, e_cd, e_null, e_iadd, e_isub, e_imul, e_iand, e_ishr, e_idiv, e_irem, e_ineg, e_ladd, e_lsub, e_lor, e_land, e_ldiv, e_lshl, e_lshr, e_i2l, e_l2i, e_i2b, e_i2d, e_l2d, e_d2l, e_dneg, e_dadd, e_dmul, e_ddiv, e_lcmp, e_dcmpl, e_dcmpg, e_dup, e_dup2, e_pop, e_ild, e_lld, e_dld, e_ald, e_ist, e_lst, e_dst, e_ast, e_iinc, e_if_eq, e_icmp_eq, e_if_lt, e_icmp_lt, e_if_ge, e_icmp_ge, e_if_gt, e_icmp_gt, e_if_le, e_icmp_le, e_if_ne, e_icmp_ne, e_ifnull, e_ifnonnull, e_acmp_ne, e_getI, e_getL, e_getR, e_putI, e_putZ, e_putL, e_putR, e_iald, e_iast, e_zald, e_zast, e_lald, e_last, e_dald, e_dast, e_aald, e_aast, e_new, e_newa, e_newq, e_ret0, e_iret, e_zret, e_lret, e_aret, e_obj, e_acpL, e_acpD, e_max, e_d2b, e_b2d, e_sld, e_slen, e_lawret, e_place, e_tsw, xsw, xKn_i, xKn_0, if_false, if_true, eq_self, Nat.zero_add, exists_eq', exists_eq, true_or, or_true, List.length_cons, List.length_nil, Nat.le_refl, Nat.zero_le, Nat.sub_zero, xent, xcat, List.lookup, beq_self_eq_true, Nat.reduceBEq, xst1, xst2, List.filter, Bool.not_true, Bool.not_false, Bool.and_true, Bool.true_and, Bool.and_false, Bool.false_and, xsum, List.map, List.sum_cons, List.sum_nil, List.drop, List.take, List.reverse, List.reverseAux, Option.toList, List.cons_append, List.nil_append, Nat.reduceAdd, Nat.reduceSub, Nat.reduceLeDiff, Nat.reduceEqDiff, true_and, and_true, exists_eq_left', Option.some.injEq, exists_eq_left, List.getElem?_cons_zero, List.getElem?_cons_succ, Prod.mk.injEq, Sum.inr.injEq, gI_sI, gI_sL, gI_sD, gI_sR, gI_nO, gI_cL, gI_cD, gL_sI, gL_sL, gL_sD, gL_sR, gL_nO, gL_cL, gL_cD, gD_sI, gD_sL, gD_sD, gD_sR, gD_nO, gD_cL, gD_cD, gR_sI, gR_sL, gR_sD, gR_sR, gR_nO, gR_cL, gR_cD, gV_sI, gV_sL, gV_sD, gV_sR, gV_nO, gV_cL, gV_cD, gV_nO_mono, y_ltI, y_leI, y_eqI, y_ltl, y_lel, y_eql, y_lle, y_llt, y_leq, y_m1, y_neg, y_nn, y_cl, y_in, y_add, y_addl, y_ladd, y_mul, y_mull, y_lmul, y_subl, y_sub, y_am1, y_divl, y_reml, y_10, y_mod, reduceCtorEq, Nat.reduceDiv, Nat.reduceMul, Nat.reduceMod, Nat.reduceLT, Nat.reduceEqDiff, Int32.reduceLT, Int32.reduceLE, Int32.reduceSub, Int32.reduceAdd, false_and, and_false, true_and, and_true, and_self, not_true_eq_false, not_false_eq_true, true_implies, false_implies, implies_true, ite_self, ne_eq, forall_eq, forall_const, if_false, if_true, ite_false, ite_true, BX7_bitsOf_26, fp_cmp2a h1 h2, cv_lt, fp_scaleup h1 h2, fp_trunc h1 h2, v1, c0]
  cases s with
  | true =>
    have := fp_join (s := true) h1 h2 (L := L) (by omega) hx (sg := -9223372036854775808) (by rw [if_pos rfl])
    simp (disch := omega) only [e_callV, e_callS, e_callW, e_goto, e_ci, e_cl, e_cd, e_null, e_iadd, e_isub, e_imul, e_iand, e_ishr, e_idiv, e_irem, e_ineg, e_ladd, e_lsub, e_lor, e_land, e_ldiv, e_lshl, e_lshr, e_i2l, e_l2i, e_i2b, e_i2d, e_l2d, e_d2l, e_dneg, e_dadd, e_dmul, e_ddiv, e_lcmp, e_dcmpl, e_dcmpg, e_dup, e_dup2, e_pop, e_ild, e_lld, e_dld, e_ald, e_ist, e_lst, e_dst, e_ast, e_iinc, e_if_eq, e_icmp_eq, e_if_lt, e_icmp_lt, e_if_ge, e_icmp_ge, e_if_gt, e_icmp_gt, e_if_le, e_icmp_le, e_if_ne, e_icmp_ne, e_ifnull, e_ifnonnull, e_acmp_ne, e_getI, e_getL, e_getR, e_putI, e_putZ, e_putL, e_putR, e_iald, e_iast, e_zald, e_zast, e_lald, e_last, e_dald, e_dast, e_aald, e_aast, e_new, e_newa, e_newq, e_ret0, e_iret, e_zret, e_lret, e_aret, e_obj, e_acpL, e_acpD, e_max, e_d2b, e_b2d, e_sld, e_slen, e_lawret, e_place, e_tsw, xsw, xKn_i, xKn_0, if_false, if_true, eq_self, Nat.zero_add, exists_eq', exists_eq, true_or, or_true, List.length_cons, List.length_nil, Nat.le_refl, Nat.zero_le, Nat.sub_zero, xent, xcat, List.lookup, beq_self_eq_true, Nat.reduceBEq, xst1, xst2, List.filter, Bool.not_true, Bool.not_false, Bool.and_true, Bool.true_and, Bool.and_false, Bool.false_and, xsum, List.map, List.sum_cons, List.sum_nil, List.drop, List.take, List.reverse, List.reverseAux, Option.toList, List.cons_append, List.nil_append, Nat.reduceAdd, Nat.reduceSub, Nat.reduceLeDiff, Nat.reduceEqDiff, true_and, and_true, exists_eq_left', Option.some.injEq, exists_eq_left, List.getElem?_cons_zero, List.getElem?_cons_succ, Prod.mk.injEq, Sum.inr.injEq, gI_sI, gI_sL, gI_sD, gI_sR, gI_nO, gI_cL, gI_cD, gL_sI, gL_sL, gL_sD, gL_sR, gL_nO, gL_cL, gL_cD, gD_sI, gD_sL, gD_sD, gD_sR, gD_nO, gD_cL, gD_cD, gR_sI, gR_sL, gR_sD, gR_sR, gR_nO, gR_cL, gR_cD, gV_sI, gV_sL, gV_sD, gV_sR, gV_nO, gV_cL, gV_cD, gV_nO_mono, y_ltI, y_leI, y_eqI, y_ltl, y_lel, y_eql, y_lle, y_llt, y_leq, y_m1, y_neg, y_nn, y_cl, y_in, y_add, y_addl, y_ladd, y_mul, y_mull, y_lmul, y_subl, y_sub, y_am1, y_divl, y_reml, y_10, y_mod, reduceCtorEq, Nat.reduceDiv, Nat.reduceMul, Nat.reduceMod, Nat.reduceLT, Nat.reduceEqDiff, Int32.reduceLT, Int32.reduceLE, Int32.reduceSub, Int32.reduceAdd, false_and, and_false, true_and, and_true, and_self, not_true_eq_false, not_false_eq_true, true_implies, false_implies, implies_true, ite_self, ne_eq, forall_eq, forall_const, if_false, if_true, ite_false, ite_true, cw_lt]
    rw [this]
    exact hp
  | false =>
    have := fp_join (s := false) h1 h2 (L := L) (by omega) hx (sg := 0) (by rw [if_neg (by decide)])
    simp (disch := omega) only [e_callV, e_callS, e_callW, e_goto, e_ci, e_cl, e_cd, e_null, e_iadd, e_isub, e_imul, e_iand, e_ishr, e_idiv, e_irem, e_ineg, e_ladd, e_lsub, e_lor, e_land, e_ldiv, e_lshl, e_lshr, e_i2l, e_l2i, e_i2b, e_i2d, e_l2d, e_d2l, e_dneg, e_dadd, e_dmul, e_ddiv, e_lcmp, e_dcmpl, e_dcmpg, e_dup, e_dup2, e_pop, e_ild, e_lld, e_dld, e_ald, e_ist, e_lst, e_dst, e_ast, e_iinc, e_if_eq, e_icmp_eq, e_if_lt, e_icmp_lt, e_if_ge, e_icmp_ge, e_if_gt, e_icmp_gt, e_if_le, e_icmp_le, e_if_ne, e_icmp_ne, e_ifnull, e_ifnonnull, e_acmp_ne, e_getI, e_getL, e_getR, e_putI, e_putZ, e_putL, e_putR, e_iald, e_iast, e_zald, e_zast, e_lald, e_last, e_dald, e_dast, e_aald, e_aast, e_new, e_newa, e_newq, e_ret0, e_iret, e_zret, e_lret, e_aret, e_obj, e_acpL, e_acpD, e_max, e_d2b, e_b2d, e_sld, e_slen, e_lawret, e_place, e_tsw, xsw, xKn_i, xKn_0, if_false, if_true, eq_self, Nat.zero_add, exists_eq', exists_eq, true_or, or_true, List.length_cons, List.length_nil, Nat.le_refl, Nat.zero_le, Nat.sub_zero, xent, xcat, List.lookup, beq_self_eq_true, Nat.reduceBEq, xst1, xst2, List.filter, Bool.not_true, Bool.not_false, Bool.and_true, Bool.true_and, Bool.and_false, Bool.false_and, xsum, List.map, List.sum_cons, List.sum_nil, List.drop, List.take, List.reverse, List.reverseAux, Option.toList, List.cons_append, List.nil_append, Nat.reduceAdd, Nat.reduceSub, Nat.reduceLeDiff, Nat.reduceEqDiff, true_and, and_true, exists_eq_left', Option.some.injEq, exists_eq_left, List.getElem?_cons_zero, List.getElem?_cons_succ, Prod.mk.injEq, Sum.inr.injEq, gI_sI, gI_sL, gI_sD, gI_sR, gI_nO, gI_cL, gI_cD, gL_sI, gL_sL, gL_sD, gL_sR, gL_nO, gL_cL, gL_cD, gD_sI, gD_sL, gD_sD, gD_sR, gD_nO, gD_cL, gD_cD, gR_sI, gR_sL, gR_sD, gR_sR, gR_nO, gR_cL, gR_cD, gV_sI, gV_sL, gV_sD, gV_sR, gV_nO, gV_cL, gV_cD, gV_nO_mono, y_ltI, y_leI, y_eqI, y_ltl, y_lel, y_eql, y_lle, y_llt, y_leq, y_m1, y_neg, y_nn, y_cl, y_in, y_add, y_addl, y_ladd, y_mul, y_mull, y_lmul, y_subl, y_sub, y_am1, y_divl, y_reml, y_10, y_mod, reduceCtorEq, Nat.reduceDiv, Nat.reduceMul, Nat.reduceMod, Nat.reduceLT, Nat.reduceEqDiff, Int32.reduceLT, Int32.reduceLE, Int32.reduceSub, Int32.reduceAdd, false_and, and_false, true_and, and_true, and_self, not_true_eq_false, not_false_eq_true, true_implies, false_implies, implies_true, ite_self, ne_eq, forall_eq, forall_const, if_false, if_true, ite_false, ite_true, cw_gt, Bool.false_eq_true]
    rw [this]
    exact hp
theorem bo_loop {l : Launch} {D : DX} {b0 : Nat} {M : XM} {post : XM → Option XV → Prop} {X : Nat → XK} (hX : CLX7_bitsOf l D b0 X post) {s : Bool} {L c : Nat} (h1 : 2 ^ 52 ≤ c) (h2 : c < 2 ^ 53) (hL : L ≤ 85) {x : Int64} (hx : x.toUInt64.toNat = enN s L c) (hp : post M (some (vL x))) : ∀ m k, k + m = L → X 26 [(4, vL (Int64.ofNat (1023 + k))), (2, vD (dE false m c)), (0, vD (dE s L c))] [] M 0 0 := by
  intro m
  induction m with
  | zero =>
    intro k hk
    have e : k = L := by omega
    rw [e]
    exact bo_fin hX h1 h2 hL hx hp
  | succ m ih =>
    intro k hk
    refine hX.2 _ _ _ _ _ ?_
    have hge := bo_ge (m := m) h1 h2 (by omega)
    have v1 := vf_dE (s := false) (L := m) h1 h2 (by omega)
    have hlt := bo_lt (k := k) (by omega)
    simp (disch := omega) only [e_callV, e_callS, e_callW, e_goto, e_ci, e_cl, e_cd, e_null, e_iadd, e_isub, e_imul, e_iand, e_ishr, e_idiv, e_irem, e_ineg, e_ladd, e_lsub, e_lor, e_land, e_ldiv, e_lshl, e_lshr, e_i2l, e_l2i, e_i2b, e_i2d, e_l2d, e_d2l, e_dneg, e_dadd, e_dmul, e_ddiv, e_lcmp, e_dcmpl, e_dcmpg, e_dup, e_dup2, e_pop, e_ild, e_lld, e_dld, e_ald, e_ist, e_lst, e_dst, e_ast, e_iinc, e_if_eq, e_icmp_eq, e_if_lt, e_icmp_lt, e_if_ge, e_icmp_ge, e_if_gt, e_icmp_gt, e_if_le, e_icmp_le, e_if_ne, e_icmp_ne, e_ifnull, e_ifnonnull, e_acmp_ne, e_getI, e_getL, e_getR, e_putI, e_putZ, e_putL, e_putR, e_iald, e_iast, e_zald, e_zast, e_lald, e_last, e_dald, e_dast, e_aald, e_aast, e_new, e_newa, e_newq, e_ret0, e_iret, e_zret, e_lret, e_aret, e_obj, e_acpL, e_acpD, e_max, e_d2b, e_b2d, e_sld, e_slen, e_lawret, e_place, e_tsw, xsw, xKn_i, xKn_0, if_false, if_true, eq_self, Nat.zero_add, exists_eq', exists_eq, true_or, or_true, List.length_cons, List.length_nil, Nat.le_refl, Nat.zero_le, Nat.sub_zero, xent, xcat, List.lookup, beq_self_eq_true, Nat.reduceBEq, xst1, xst2, List.filter, Bool.not_true, Bool.not_false, Bool.and_true, Bool.true_and, Bool.and_false, Bool.false_and, xsum, List.map, List.sum_cons, List.sum_nil, List.drop, List.take, List.reverse, List.reverseAux, Option.toList, List.cons_append, List.nil_append, Nat.reduceAdd, Nat.reduceSub, Nat.reduceLeDiff, Nat.reduceEqDiff, true_and, and_true, exists_eq_left', Option.some.injEq, exists_eq_left, List.getElem?_cons_zero, List.getElem?_cons_succ, Prod.mk.injEq, Sum.inr.injEq, gI_sI, gI_sL, gI_sD, gI_sR, gI_nO, gI_cL, gI_cD, gL_sI, gL_sL, gL_sD, gL_sR, gL_nO, gL_cL, gL_cD, gD_sI, gD_sL, gD_sD, gD_sR, gD_nO, gD_cL, gD_cD, gR_sI, gR_sL, gR_sD, gR_sR, gR_nO, gR_cL, gR_cD, gV_sI, gV_sL, gV_sD, gV_sR, gV_nO, gV_cL, gV_cD, gV_nO_mono, y_ltI, y_leI, y_eqI, y_ltl, y_lel, y_eql, y_lle, y_llt, y_leq, y_m1, y_neg, y_nn, y_cl, y_in, y_add, y_addl, y_ladd, y_mul, y_mull, y_lmul, y_subl, y_sub, y_am1, y_divl, y_reml, y_10, y_mod, reduceCtorEq, Nat.reduceDiv, Nat.reduceMul, Nat.reduceMod, Nat.reduceLT, Nat.reduceEqDiff, Int32.reduceLT, Int32.reduceLE, Int32.reduceSub, Int32.reduceAdd, false_and, and_false, true_and, and_true, and_self, not_true_eq_false, not_false_eq_true, true_implies, false_implies, implies_true, ite_self, ne_eq, forall_eq, forall_const, if_false, if_true, ite_false, ite_true, BX7_bitsOf_26, hge, hlt, fp_half (L := m) h1 h2 (by omega), v1, bo_s]
    exact ih (k + 1) (by omega)
theorem v_X7_bitsOf {l : Launch} {D : DX} {b0 : Nat} {M : XM} {post : XM → Option XV → Prop} {x : Int64} (h : gdd x) (hp : post M (some (vL x))) : xMet l D b0 1 0 0 yX7_bitsOf cX7_bitsOf 10 (some FieldType.long) [vD x.toUInt64] M post := by
  refine MTX7_bitsOf (Nat.le_of_ble_eq_true rfl) (fun X hX => hX.1 _ _ _ _ _ ?_)
  rcases (gdd_GN x).mp h with h0 | ⟨s, L, c, hx, h1, h2, hL, -⟩
  · have hx : x.toUInt64 = 0 := UInt64.toNat_inj.mp h0
    have hx0 : x = 0 := by
      have := congrArg UInt64.toInt64 hx
      simpa using this
    rw [hx]
    rw [hx0] at hp
    simp (disch := omega) only [e_callV, e_callS, e_callW, e_goto, e_ci, e_cl, e_cd, e_null, e_iadd, e_isub, e_imul, e_iand, e_ishr, e_idiv, e_irem, e_ineg, e_ladd, e_lsub, e_lor, e_land, e_ldiv, e_lshl, e_lshr, e_i2l, e_l2i, e_i2b, e_i2d, e_l2d, e_d2l, e_dneg, e_dadd, e_dmul, e_ddiv, e_lcmp, e_dcmpl, e_dcmpg, e_dup, e_dup2, e_pop, e_ild, e_lld, e_dld, e_ald, e_ist, e_lst, e_dst, e_ast, e_iinc, e_if_eq, e_icmp_eq, e_if_lt, e_icmp_lt, e_if_ge, e_icmp_ge, e_if_gt, e_icmp_gt, e_if_le, e_icmp_le, e_if_ne, e_icmp_ne, e_ifnull, e_ifnonnull, e_acmp_ne, e_getI, e_getL, e_getR, e_putI, e_putZ, e_putL, e_putR, e_iald, e_iast, e_zald, e_zast, e_lald, e_last, e_dald, e_dast, e_aald, e_aast, e_new, e_newa, e_newq, e_ret0, e_iret, e_zret, e_lret, e_aret, e_obj, e_acpL, e_acpD, e_max, e_d2b, e_b2d, e_sld, e_slen, e_lawret, e_place, e_tsw, xsw, xKn_i, xKn_0, if_false, if_true, eq_self, Nat.zero_add, exists_eq', exists_eq, true_or, or_true, List.length_cons, List.length_nil, Nat.le_refl, Nat.zero_le, Nat.sub_zero, xent, xcat, List.lookup, beq_self_eq_true, Nat.reduceBEq, xst1, xst2, List.filter, Bool.not_true, Bool.not_false, Bool.and_true, Bool.true_and, Bool.and_false, Bool.false_and, xsum, List.map, List.sum_cons, List.sum_nil, List.drop, List.take, List.reverse, List.reverseAux, Option.toList, List.cons_append, List.nil_append, Nat.reduceAdd, Nat.reduceSub, Nat.reduceLeDiff, Nat.reduceEqDiff, true_and, and_true, exists_eq_left', Option.some.injEq, exists_eq_left, List.getElem?_cons_zero, List.getElem?_cons_succ, Prod.mk.injEq, Sum.inr.injEq, gI_sI, gI_sL, gI_sD, gI_sR, gI_nO, gI_cL, gI_cD, gL_sI, gL_sL, gL_sD, gL_sR, gL_nO, gL_cL, gL_cD, gD_sI, gD_sL, gD_sD, gD_sR, gD_nO, gD_cL, gD_cD, gR_sI, gR_sL, gR_sD, gR_sR, gR_nO, gR_cL, gR_cD, gV_sI, gV_sL, gV_sD, gV_sR, gV_nO, gV_cL, gV_cD, gV_nO_mono, y_ltI, y_leI, y_eqI, y_ltl, y_lel, y_eql, y_lle, y_llt, y_leq, y_m1, y_neg, y_nn, y_cl, y_in, y_add, y_addl, y_ladd, y_mul, y_mull, y_lmul, y_subl, y_sub, y_am1, y_divl, y_reml, y_10, y_mod, reduceCtorEq, Nat.reduceDiv, Nat.reduceMul, Nat.reduceMod, Nat.reduceLT, Nat.reduceEqDiff, Int32.reduceLT, Int32.reduceLE, Int32.reduceSub, Int32.reduceAdd, false_and, and_false, true_and, and_true, and_self, not_true_eq_false, not_false_eq_true, true_implies, false_implies, implies_true, ite_self, ne_eq, forall_eq, forall_const, if_false, if_true, ite_false, ite_true, BX7_bitsOf_0, fp_cmp00, cv_eq]
    exact hp
  · have go := bo_loop hX h1 h2 hL hx hp L 0 (by omega)
    rw [← bo_0] at go
    rw [dE_of hx]
    have c0 := fp_cmp0 (s := s) h1 h2 (L := L) (by omega)
    cases s with
    | true =>
      rw [if_pos rfl] at c0
      simp (disch := omega) only [e_callV, e_callS, e_callW, e_goto, e_ci, e_cl, e_cd, e_null, e_iadd, e_isub, e_imul, e_iand, e_ishr, e_idiv, e_irem, e_ineg, e_ladd, e_lsub, e_lor, e_land, e_ldiv, e_lshl, e_lshr, e_i2l, e_l2i, e_i2b, e_i2d, e_l2d, e_d2l, e_dneg, e_dadd, e_dmul, e_ddiv, e_lcmp, e_dcmpl, e_dcmpg, e_dup, e_dup2, e_pop, e_ild, e_lld, e_dld, e_ald, e_ist, e_lst, e_dst, e_ast, e_iinc, e_if_eq, e_icmp_eq, e_if_lt, e_icmp_lt, e_if_ge, e_icmp_ge, e_if_gt, e_icmp_gt, e_if_le, e_icmp_le, e_if_ne, e_icmp_ne, e_ifnull, e_ifnonnull, e_acmp_ne, e_getI, e_getL, e_getR, e_putI, e_putZ, e_putL, e_putR, e_iald, e_iast, e_zald, e_zast, e_lald, e_last, e_dald, e_dast, e_aald, e_aast, e_new, e_newa, e_newq, e_ret0, e_iret, e_zret, e_lret, e_aret, e_obj, e_acpL, e_acpD, e_max, e_d2b, e_b2d, e_sld, e_slen, e_lawret, e_place, e_tsw, xsw, xKn_i, xKn_0, if_false, if_true, eq_self, Nat.zero_add, exists_eq', exists_eq, true_or, or_true, List.length_cons, List.length_nil, Nat.le_refl, Nat.zero_le, Nat.sub_zero, xent, xcat, List.lookup, beq_self_eq_true, Nat.reduceBEq, xst1, xst2, List.filter, Bool.not_true, Bool.not_false, Bool.and_true, Bool.true_and, Bool.and_false, Bool.false_and, xsum, List.map, List.sum_cons, List.sum_nil, List.drop, List.take, List.reverse, List.reverseAux, Option.toList, List.cons_append, List.nil_append, Nat.reduceAdd, Nat.reduceSub, Nat.reduceLeDiff, Nat.reduceEqDiff, true_and, and_true, exists_eq_left', Option.some.injEq, exists_eq_left, List.getElem?_cons_zero, List.getElem?_cons_succ, Prod.mk.injEq, Sum.inr.injEq, gI_sI, gI_sL, gI_sD, gI_sR, gI_nO, gI_cL, gI_cD, gL_sI, gL_sL, gL_sD, gL_sR, gL_nO, gL_cL, gL_cD, gD_sI, gD_sL, gD_sD, gD_sR, gD_nO, gD_cL, gD_cD, gR_sI, gR_sL, gR_sD, gR_sR, gR_nO, gR_cL, gR_cD, gV_sI, gV_sL, gV_sD, gV_sR, gV_nO, gV_cL, gV_cD, gV_nO_mono, y_ltI, y_leI, y_eqI, y_ltl, y_lel, y_eql, y_lle, y_llt, y_leq, y_m1, y_neg, y_nn, y_cl, y_in, y_add, y_addl, y_ladd, y_mul, y_mull, y_lmul, y_subl, y_sub, y_am1, y_divl, y_reml, y_10, y_mod, reduceCtorEq, Nat.reduceDiv, Nat.reduceMul, Nat.reduceMod, Nat.reduceLT, Nat.reduceEqDiff, Int32.reduceLT, Int32.reduceLE, Int32.reduceSub, Int32.reduceAdd, false_and, and_false, true_and, and_true, and_self, not_true_eq_false, not_false_eq_true, true_implies, false_implies, implies_true, ite_self, ne_eq, forall_eq, forall_const, if_false, if_true, ite_false, ite_true, BX7_bitsOf_0, c0, cv_lt, cw_lt, fp_neg h1 h2 (L := L) (by omega), y_m10]
      exact go
    | false =>
      rw [if_neg (by decide)] at c0
      simp (disch := omega) only [e_callV, e_callS, e_callW, e_goto, e_ci, e_cl, e_cd, e_null, e_iadd, e_isub, e_imul, e_iand, e_ishr, e_idiv, e_irem, e_ineg, e_ladd, e_lsub, e_lor, e_land, e_ldiv, e_lshl, e_lshr, e_i2l, e_l2i, e_i2b, e_i2d, e_l2d, e_d2l, e_dneg, e_dadd, e_dmul, e_ddiv, e_lcmp, e_dcmpl, e_dcmpg, e_dup, e_dup2, e_pop, e_ild, e_lld, e_dld, e_ald, e_ist, e_lst, e_dst, e_ast, e_iinc, e_if_eq, e_icmp_eq, e_if_lt, e_icmp_lt, e_if_ge, e_icmp_ge, e_if_gt, e_icmp_gt, e_if_le, e_icmp_le, e_if_ne, e_icmp_ne, e_ifnull, e_ifnonnull, e_acmp_ne, e_getI, e_getL, e_getR, e_putI, e_putZ, e_putL, e_putR, e_iald, e_iast, e_zald, e_zast, e_lald, e_last, e_dald, e_dast, e_aald, e_aast, e_new, e_newa, e_newq, e_ret0, e_iret, e_zret, e_lret, e_aret, e_obj, e_acpL, e_acpD, e_max, e_d2b, e_b2d, e_sld, e_slen, e_lawret, e_place, e_tsw, xsw, xKn_i, xKn_0, if_false, if_true, eq_self, Nat.zero_add, exists_eq', exists_eq, true_or, or_true, List.length_cons, List.length_nil, Nat.le_refl, Nat.zero_le, Nat.sub_zero, xent, xcat, List.lookup, beq_self_eq_true, Nat.reduceBEq, xst1, xst2, List.filter, Bool.not_true, Bool.not_false, Bool.and_true, Bool.true_and, Bool.and_false, Bool.false_and, xsum, List.map, List.sum_cons, List.sum_nil, List.drop, List.take, List.reverse, List.reverseAux, Option.toList, List.cons_append, List.nil_append, Nat.reduceAdd, Nat.reduceSub, Nat.reduceLeDiff, Nat.reduceEqDiff, true_and, and_true, exists_eq_left', Option.some.injEq, exists_eq_left, List.getElem?_cons_zero, List.getElem?_cons_succ, Prod.mk.injEq, Sum.inr.injEq, gI_sI, gI_sL, gI_sD, gI_sR, gI_nO, gI_cL, gI_cD, gL_sI, gL_sL, gL_sD, gL_sR, gL_nO, gL_cL, gL_cD, gD_sI, gD_sL, gD_sD, gD_sR, gD_nO, gD_cL, gD_cD, gR_sI, gR_sL, gR_sD, gR_sR, gR_nO, gR_cL, gR_cD, gV_sI, gV_sL, gV_sD, gV_sR, gV_nO, gV_cL, gV_cD, gV_nO_mono, y_ltI, y_leI, y_eqI, y_ltl, y_lel, y_eql, y_lle, y_llt, y_leq, y_m1, y_neg, y_nn, y_cl, y_in, y_add, y_addl, y_ladd, y_mul, y_mull, y_lmul, y_subl, y_sub, y_am1, y_divl, y_reml, y_10, y_mod, reduceCtorEq, Nat.reduceDiv, Nat.reduceMul, Nat.reduceMod, Nat.reduceLT, Nat.reduceEqDiff, Int32.reduceLT, Int32.reduceLE, Int32.reduceSub, Int32.reduceAdd, false_and, and_false, true_and, and_true, and_self, not_true_eq_false, not_false_eq_true, true_implies, false_implies, implies_true, ite_self, ne_eq, forall_eq, forall_const, if_false, if_true, ite_false, ite_true, BX7_bitsOf_0, c0, cv_gt, cw_gt]
      exact go
