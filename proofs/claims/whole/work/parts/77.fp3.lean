/-! PURE: division of doubles of rows. -/
theorem fp_l2d_nat (v : Int64) : (FP.l2d v).toNat = FP.Core.fromInt FP.Core.b64 v.toInt := by
  have hb : v.toInt.natAbs ≤ 2 ^ 63 := by
    have h1 := Int64.toInt_lt v
    have h2 := Int64.le_toInt v
    omega
  show (UInt64.ofNat _).toNat = _
  rw [UInt64.toNat_ofNat', Nat.mod_eq_of_lt (GN_lt (GN_fromInt (by omega)))]
theorem fp_l2d {v : Int64} (h : v ≠ 0) : ∃ L c : Nat, (FP.l2d v).toNat = enN (decide (v.toInt < 0)) L c ∧ 2 ^ 52 ≤ c ∧ c < 2 ^ 53 ∧ L ≤ 85 := by
  have hb : v.toInt.natAbs ≤ 2 ^ 63 := by
    have h1 := Int64.toInt_lt v
    have h2 := Int64.le_toInt v
    omega
  have h0 : v.toInt ≠ 0 := fun z => h (Int64.toInt_inj.mp (by rw [z]; rfl))
  obtain ⟨L, c, q1, q2, q3, q4, -⟩ := fp_fromInt h0 (by omega)
  exact ⟨L, c, by rw [fp_l2d_nat, q1], q2, q3, q4⟩
theorem fp_l2d0 : FP.l2d 0 = 0 := by decide +kernel
theorem fp_div0 {v : Int64} (h : v ≠ 0) : FP.ddiv (FP.l2d v) 0 = if v.toInt < 0 then 18442240474082181120 else 9218868437227405312 := by
  obtain ⟨L, c, q1, q2, q3, q4⟩ := fp_l2d h
  show UInt64.ofNat (FP.Core.div FP.Core.b64 (FP.l2d v).toNat (0 : UInt64).toNat) = _
  rw [q1, show (0 : UInt64).toNat = 0 from rfl]
  unfold FP.Core.div
  rw [fp_decode q2 q3 (by omega), fp_decode0]
  unfold FP.Core.quotient
  dsimp only
  rw [if_pos rfl, if_neg (by omega)]
  by_cases hs : v.toInt < 0
  · rw [if_pos hs, decide_eq_true hs]
    decide +kernel
  · rw [if_neg hs, decide_eq_false hs]
    decide +kernel
theorem fp_d2l_inf : FP.d2l 18442240474082181120 = -9223372036854775808 ∧ FP.d2l 9218868437227405312 = 9223372036854775807 := by decide +kernel
theorem fp_n64_inf : vf_n64 18442240474082181120 ∧ vf_n64 9218868437227405312 := by
  unfold vf_n64
  decide +kernel
theorem fp_div0n (v : Int64) (h : v ≠ 0) : vf_n64 (FP.ddiv (FP.l2d v) 0) := by
  rw [fp_div0 h]
  split
  · exact fp_n64_inf.1
  · exact fp_n64_inf.2
theorem fp_div0v (v : Int64) (h : v ≠ 0) : FP.d2l (FP.ddiv (FP.l2d v) 0) = if v.toInt < 0 then -9223372036854775808 else 9223372036854775807 := by
  rw [fp_div0 h]
  by_cases hs : v.toInt < 0
  · rw [if_pos hs, if_pos hs]
    exact fp_d2l_inf.1
  · rw [if_neg hs, if_neg hs]
    exact fp_d2l_inf.2
/-- the encoding of a number that fits, with its leading digit, is no NaN -/
theorem fp_enc_n {S : Bool} {c : Nat} {q : Int} (h1 : 2 ^ 52 ≤ c) (h2 : c < 2 ^ 53) (h3 : -1074 ≤ q) (h4 : q ≤ 900) : vf_n64 (UInt64.ofNat (FP.Core.encode FP.Core.b64 (.fin S c q))) := by
  have hs : S.toNat ≤ 1 := by cases S <;> decide
  unfold FP.Core.encode
  dsimp only
  rw [fp_tails, if_neg (by omega), fp_qmin]
  unfold FP.Core.assemble
  rw [fp_tails, fp_exps]
  obtain ⟨E, hE⟩ : ∃ E : Nat, (q - -1074).toNat + 1 = E ∧ E ≤ 1975 := ⟨_, rfl, by omega⟩
  rw [hE.1]
  unfold vf_n64
  rw [UInt64.le_iff_toNat_le, UInt64.toNat_and, UInt64.toNat_ofNat']
  have e1 : (0x7fffffffffffffff : UInt64).toNat = 2 ^ 63 - 1 := rfl
  have e2 : (0x7ff0000000000000 : UInt64).toNat = 2047 * 2 ^ 52 := rfl
  rw [e1, e2, Nat.and_two_pow_sub_one_eq_mod]
  have := hE.2
  omega
theorem fp_divn {v x : Int64} (hx : gdd x) (h0 : x ≠ 0) : vf_n64 (FP.ddiv (FP.l2d v) x.toUInt64) := by
  have hx2 : ∃ (t : Bool) (Ly d : Nat), x.toUInt64.toNat = enN t Ly d ∧ 2 ^ 52 ≤ d ∧ d < 2 ^ 53 ∧ Ly ≤ 85 := by
    rcases (gdd_GN x).mp hx with h | ⟨s, L, c, q1, q2, q3, q4, -⟩
    · refine absurd ?_ h0
      have h1 : x.toUInt64 = 0 := UInt64.toNat_inj.mp h
      have := congrArg UInt64.toInt64 h1
      simpa using this
    · exact ⟨s, L, c, q1, q2, q3, q4⟩
  obtain ⟨t, Ly, d, y1, y2, y3, y4⟩ := hx2
  show vf_n64 (UInt64.ofNat (FP.Core.div FP.Core.b64 (FP.l2d v).toNat x.toUInt64.toNat))
  rw [y1]
  unfold FP.Core.div
  rw [fp_decode y2 y3 (by omega)]
  by_cases hv : v = 0
  · rw [hv, fp_l2d0, show (0 : UInt64).toNat = 0 from rfl, fp_decode0]
    unfold FP.Core.quotient
    dsimp only
    rw [if_neg (by omega)]
    unfold FP.Core.roundRatio
    rw [if_pos rfl]
    cases t <;> (unfold vf_n64; decide +kernel)
  · obtain ⟨Lx, c, x1, x2, x3, x4⟩ := fp_l2d hv
    rw [x1, fp_decode x2 x3 (by omega)]
    unfold FP.Core.quotient
    dsimp only
    rw [if_neg (by omega)]
    have eq : (Lx : Int) - 52 - ((Ly : Int) - 52) = (Lx : Int) - Ly := by omega
    rw [eq]
    have l1 : c.log2 = 52 := (Nat.log2_eq_iff (by omega)).mpr ⟨x2, x3⟩
    have l2 : d.log2 = 52 := (Nat.log2_eq_iff (by omega)).mpr ⟨y2, y3⟩
    obtain ⟨k, hk, hk1, hk2⟩ : ∃ k : Nat, FP.Core.leading c d = -(k : Int) ∧ k ≤ 1 ∧ (2 ^ 52 ≤ c * 2 ^ (52 + k) / d ∧ c * 2 ^ (52 + k) / d < 2 ^ 53) := by
      unfold FP.Core.leading
      rw [l1, l2]
      dsimp only
      have e1 : (((52 : Nat) : Int) - ((52 : Nat) : Int)).toNat = 0 := by omega
      have e2 : (-(((52 : Nat) : Int) - ((52 : Nat) : Int))).toNat = 0 := by omega
      rw [e1, e2, Nat.pow_zero, Nat.mul_one, Nat.mul_one]
      have hd : 0 < d := by omega
      by_cases hcd : d ≤ c
      · rw [if_pos hcd]
        refine ⟨0, by omega, by omega, (Nat.le_div_iff_mul_le hd).mpr ?_, (Nat.div_lt_iff_lt_mul hd).mpr ?_⟩
        · rw [Nat.add_zero, Nat.mul_comm]
          exact Nat.mul_le_mul_right _ hcd
        · rw [Nat.add_zero]
          omega
      · rw [if_neg hcd]
        refine ⟨1, by omega, by omega, (Nat.le_div_iff_mul_le hd).mpr ?_, (Nat.div_lt_iff_lt_mul hd).mpr ?_⟩
        · omega
        · rw [Nat.mul_comm]
          exact Nat.mul_lt_mul_of_pos_left (by omega) (by decide)
    have hq : FP.Core.quantum FP.Core.b64 c d ((Lx : Int) - Ly) = (Lx : Int) - Ly - k - 52 := by
      unfold FP.Core.quantum
      rw [hk, fp_qmin, fp_p]
      omega
    unfold FP.Core.roundRatio
    rw [if_neg (by omega), hq]
    unfold FP.Core.roundAt FP.Core.unitsNum FP.Core.unitsDen
    rw [show ((Lx : Int) - Ly - ((Lx : Int) - Ly - k - 52)).toNat = 52 + k by omega, show ((Lx : Int) - Ly - k - 52 - ((Lx : Int) - Ly)).toNat = 0 by omega, Nat.pow_zero, Nat.mul_one]
    have n1 : c * 2 ^ (52 + k) / d ≤ FP.Core.nearest (c * 2 ^ (52 + k)) d ∧ FP.Core.nearest (c * 2 ^ (52 + k)) d ≤ c * 2 ^ (52 + k) / d + 1 := by
      unfold FP.Core.nearest
      split
      · omega
      · split
        · omega
        · omega
    unfold FP.Core.settle
    rw [fp_p]
    by_cases hcc : FP.Core.nearest (c * 2 ^ (52 + k)) d < 2 ^ 53
    · rw [if_pos hcc]
      unfold FP.Core.bound
      rw [fp_qmax, if_pos (by omega)]
      exact fp_enc_n (by omega) hcc (by omega) (by omega)
    · rw [if_neg hcc]
      unfold FP.Core.bound
      rw [fp_qmax, if_pos (by omega), fp_tails]
      exact fp_enc_n (by omega) (by omega) (by omega) (by omega)
theorem fp_is0 {x : Int64} (h : gdd x) : (FP.dcmp x.toUInt64 FP.dconst0 = some .eq ∧ x = 0) ∨ ((FP.dcmp x.toUInt64 FP.dconst0 = some .lt ∨ FP.dcmp x.toUInt64 FP.dconst0 = some .gt) ∧ x ≠ 0) := by
  rcases (gdd_GN x).mp h with h | ⟨s, L, c, q1, q2, q3, q4, -⟩
  · have h1 : x.toUInt64 = 0 := UInt64.toNat_inj.mp h
    have h2 : x = 0 := by
      have := congrArg UInt64.toInt64 h1
      simpa using this
    left
    refine ⟨?_, h2⟩
    rw [h1]
    exact fp_cmp00
  · right
    refine ⟨?_, fun z => ?_⟩
    · rw [dE_of q1, fp_cmp0 q2 q3 (by omega)]
      cases s
      · right; rfl
      · left; rfl
    · rw [z] at q1
      have e : (0 : Int64).toUInt64.toNat = 0 := rfl
      rw [e] at q1
      unfold enN at q1
      omega
theorem fp_nan {x : Int64} (h : gdd x) : FP.dcmp x.toUInt64 x.toUInt64 = some .eq := by
  show FP.Core.cmp FP.Core.b64 x.toUInt64.toNat x.toUInt64.toNat = _
  unfold FP.Core.cmp
  obtain ⟨m, -, s, c, q, e, -⟩ := fp_GDZ ((gdd_GN x).mp h)
  rw [e]
  unfold FP.Core.order
  dsimp only
  congr 1
  show compareOfLessAndEq _ _ = _
  unfold compareOfLessAndEq
  rw [if_neg (by omega), if_pos rfl]
