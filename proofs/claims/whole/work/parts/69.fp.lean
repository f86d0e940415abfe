/-! PURE: the doubles that rows hold: whole numbers. -/
theorem fp_near_scale (a b d : Nat) (hd : 0 < d) : FP.Core.nearest (a * d) (b * d) = FP.Core.nearest a b := by
  unfold FP.Core.nearest
  have e1 : a * d % (b * d) = (a % b) * d := Nat.mul_mod_mul_right d a b
  have e2 : a * d / (b * d) = a / b := Nat.mul_div_mul_right a b hd
  rw [e1, e2]
  have e3 : (2 * (a % b * d) < b * d) ↔ (2 * (a % b) < b) := by
    rw [← Nat.mul_assoc]
    exact Nat.mul_lt_mul_right hd
  have e4 : (b * d < 2 * (a % b * d)) ↔ (b < 2 * (a % b)) := by
    rw [← Nat.mul_assoc]
    exact Nat.mul_lt_mul_right hd
  simp only [e3, e4]
theorem fp_near_1 (a : Nat) : FP.Core.nearest a 1 = a := by
  unfold FP.Core.nearest
  rw [if_pos (by rw [Nat.mod_one]; decide), Nat.div_one]
theorem fp_lead {n : Nat} (h : n ≠ 0) : FP.Core.leading n 1 = (n.log2 : Int) := by
  unfold FP.Core.leading
  have e1 : (1 : Nat).log2 = 0 := by decide
  rw [e1]
  have h2 := Nat.log2_self_le h
  have e2 : ((n.log2 : Int) - ((0 : Nat) : Int)).toNat = n.log2 := by omega
  have e3 : (-((n.log2 : Int) - ((0 : Nat) : Int))).toNat = 0 := by omega
  dsimp only
  rw [e2, e3, if_pos (by rw [Nat.pow_zero, Nat.mul_one, Nat.one_mul]; exact h2)]
  omega
theorem fp_log2_mul {V k : Nat} (h : V ≠ 0) : (V * 2 ^ k).log2 = V.log2 + k := by
  have hp : 0 < 2 ^ k := Nat.two_pow_pos k
  have h0 : V * 2 ^ k ≠ 0 := Nat.mul_ne_zero h (by omega)
  rw [Nat.log2_eq_iff h0]
  have h1 := Nat.log2_self_le h
  have h2 : V < 2 ^ (V.log2 + 1) := Nat.lt_log2_self
  refine ⟨?_, ?_⟩
  · rw [Nat.pow_add]
    exact Nat.mul_le_mul_right _ h1
  · rw [show V.log2 + k + 1 = (V.log2 + 1) + k by omega, Nat.pow_add]
    exact Nat.mul_lt_mul_of_pos_right h2 hp
theorem fp_qmin : FP.Core.Fmt.qmin FP.Core.b64 = -1074 := by decide
theorem fp_qmax : FP.Core.Fmt.qmax FP.Core.b64 = 971 := by decide
theorem fp_tails : FP.Core.Fmt.tails FP.Core.b64 = 2 ^ 52 := rfl
theorem fp_exps : FP.Core.Fmt.exps FP.Core.b64 = 2048 := rfl
theorem fp_p : FP.Core.Fmt.p FP.Core.b64 = 53 := rfl
theorem fp_S1 (V k : Nat) (q : Int) : FP.Core.nearest (FP.Core.unitsNum (V * 2 ^ k) (-(k : Int)) q) (FP.Core.unitsDen 1 (-(k : Int)) q) = FP.Core.nearest (FP.Core.unitsNum V 0 q) (FP.Core.unitsDen 1 0 q) := by
  unfold FP.Core.unitsNum FP.Core.unitsDen
  obtain ⟨d, hd⟩ : ∃ d : Nat, k + (-(k : Int) - q).toNat = (0 - q).toNat + d ∧ (q - -(k : Int)).toNat = (q - 0).toNat + d := ⟨k + (-(k : Int) - q).toNat - (0 - q).toNat, by omega, by omega⟩
  rw [Nat.mul_assoc, ← Nat.pow_add, hd.1, hd.2, Nat.pow_add, Nat.pow_add, ← Nat.mul_assoc, ← Nat.mul_assoc]
  exact fp_near_scale _ _ _ (Nat.two_pow_pos d)
theorem fp_scale (s : Bool) {V : Nat} (k : Nat) (hV : V ≠ 0) : FP.Core.roundRatio FP.Core.b64 s (V * 2 ^ k) 1 (-(k : Int)) = FP.Core.roundRatio FP.Core.b64 s V 1 0 := by
  have h0 : V * 2 ^ k ≠ 0 := Nat.mul_ne_zero hV (by have := Nat.two_pow_pos k; omega)
  unfold FP.Core.roundRatio
  rw [if_neg h0, if_neg hV]
  have e : FP.Core.quantum FP.Core.b64 (V * 2 ^ k) 1 (-(k : Int)) = FP.Core.quantum FP.Core.b64 V 1 0 := by
    unfold FP.Core.quantum
    rw [fp_lead h0, fp_lead hV, fp_log2_mul hV]
    congr 1
    omega
  rw [e]
  unfold FP.Core.roundAt
  rw [fp_S1]
theorem fp_round {V : Nat} (hV : V ≠ 0) (hB : V ≤ 2 ^ 85 + 2 ^ 31) : ∃ L c : Nat, (∀ s, FP.Core.roundRatio FP.Core.b64 s V 1 0 = .fin s c ((L : Int) - 52)) ∧ 2 ^ 52 ≤ c ∧ c < 2 ^ 53 ∧ L ≤ 85 ∧ (L = 85 → c = 2 ^ 52) ∧ (L < 52 → 2 ^ (52 - L) ∣ c) ∧ (V.log2 ≤ 52 → L = V.log2 ∧ c = V * 2 ^ (52 - V.log2)) := by
  have h1 := Nat.log2_self_le hV
  have h2 : V < 2 ^ (V.log2 + 1) := Nat.lt_log2_self
  have hl : V.log2 ≤ 85 := by
    have : V.log2 < 86 := (Nat.log2_lt hV).mpr (by omega)
    omega
  have hq : FP.Core.quantum FP.Core.b64 V 1 0 = (V.log2 : Int) - 52 := by
    unfold FP.Core.quantum
    rw [fp_lead hV, fp_qmin, fp_p]
    omega
  by_cases hc : V.log2 ≤ 52
  · have e1 : (0 - ((V.log2 : Int) - 52)).toNat = 52 - V.log2 := by omega
    have e2 : ((V.log2 : Int) - 52 - 0).toNat = 0 := by omega
    have c1 : 2 ^ 52 ≤ V * 2 ^ (52 - V.log2) := by
      have := Nat.mul_le_mul_right (2 ^ (52 - V.log2)) h1
      rw [← Nat.pow_add, show V.log2 + (52 - V.log2) = 52 by omega] at this
      exact this
    have c2 : V * 2 ^ (52 - V.log2) < 2 ^ 53 := by
      have := Nat.mul_lt_mul_of_pos_right h2 (Nat.two_pow_pos (52 - V.log2))
      rw [← Nat.pow_add, show V.log2 + 1 + (52 - V.log2) = 53 by omega] at this
      exact this
    refine ⟨V.log2, V * 2 ^ (52 - V.log2), fun s => ?_, c1, c2, hl, fun z => by omega, fun _ => Nat.dvd_mul_left _ _, fun _ => ⟨rfl, rfl⟩⟩
    unfold FP.Core.roundRatio
    rw [if_neg hV, hq]
    unfold FP.Core.roundAt FP.Core.unitsNum FP.Core.unitsDen
    rw [e1, e2, Nat.pow_zero, Nat.mul_one, fp_near_1]
    unfold FP.Core.settle
    rw [fp_p, if_pos c2]
    unfold FP.Core.bound
    rw [fp_qmax, if_pos (by omega)]
  · obtain ⟨j, hj⟩ : ∃ j, V.log2 = 52 + j := ⟨V.log2 - 52, by omega⟩
    have e1 : (0 - ((V.log2 : Int) - 52)).toNat = 0 := by omega
    have e2 : ((V.log2 : Int) - 52 - 0).toNat = j := by omega
    have hp := Nat.two_pow_pos j
    rw [hj] at h1 h2
    have d1 : 2 ^ 52 ≤ V / 2 ^ j := (Nat.le_div_iff_mul_le hp).mpr (by rw [← Nat.pow_add]; exact h1)
    have d2 : V / 2 ^ j < 2 ^ 53 := (Nat.div_lt_iff_lt_mul hp).mpr (by rw [← Nat.pow_add, show 53 + j = 52 + j + 1 by omega]; exact h2)
    have n1 : V / 2 ^ j ≤ FP.Core.nearest V (2 ^ j) ∧ FP.Core.nearest V (2 ^ j) ≤ V / 2 ^ j + 1 := by
      unfold FP.Core.nearest
      split
      · omega
      · split
        · omega
        · omega
    have n85 : V.log2 = 85 → FP.Core.nearest V (2 ^ j) = 2 ^ 52 := by
      intro z
      have ej : j = 33 := by omega
      subst ej
      unfold FP.Core.nearest
      have q1 : V / 2 ^ 33 = 2 ^ 52 := by omega
      have q2 : V % 2 ^ 33 = V - 2 ^ 85 := by omega
      rw [if_pos (by omega), q1]
    have go : ∀ s, FP.Core.roundRatio FP.Core.b64 s V 1 0 = FP.Core.settle FP.Core.b64 s (FP.Core.nearest V (2 ^ j)) ((V.log2 : Int) - 52) := by
      intro s
      unfold FP.Core.roundRatio
      rw [if_neg hV, hq]
      unfold FP.Core.roundAt FP.Core.unitsNum FP.Core.unitsDen
      rw [e1, e2, Nat.pow_zero, Nat.mul_one, Nat.one_mul]
    by_cases hcc : FP.Core.nearest V (2 ^ j) < 2 ^ 53
    · refine ⟨V.log2, FP.Core.nearest V (2 ^ j), fun s => ?_, by omega, hcc, hl, n85, fun z => by omega, fun z => absurd z hc⟩
      rw [go]
      unfold FP.Core.settle
      rw [fp_p, if_pos hcc]
      unfold FP.Core.bound
      rw [fp_qmax, if_pos (by omega)]
    · have hl2 : V.log2 ≠ 85 := fun z => by have := n85 z; omega
      refine ⟨V.log2 + 1, 2 ^ 52, fun s => ?_, by omega, by omega, by omega, fun _ => rfl, fun z => by omega, fun z => absurd z hc⟩
      rw [go]
      unfold FP.Core.settle
      rw [fp_p, if_neg hcc]
      unfold FP.Core.bound
      rw [fp_qmax, if_pos (by omega), fp_tails]
      congr 1
      omega
/-- the encoding of a double of size 1 and more -/
def enN (s : Bool) (L c : Nat) : Nat := (s.toNat * 2048 + (L + 1023)) * 2 ^ 52 + (c - 2 ^ 52)
theorem fp_encode {s : Bool} {L c : Nat} (h1 : 2 ^ 52 ≤ c) : FP.Core.encode FP.Core.b64 (.fin s c ((L : Int) - 52)) = enN s L c := by
  unfold FP.Core.encode
  dsimp only
  rw [fp_tails, if_neg (by omega), fp_qmin]
  unfold FP.Core.assemble enN
  rw [fp_tails, fp_exps, show ((L : Int) - 52 - -1074).toNat + 1 = L + 1023 by omega]
theorem fp_decode {s : Bool} {L c : Nat} (h1 : 2 ^ 52 ≤ c) (h2 : c < 2 ^ 53) (hL : L ≤ 900) : FP.Core.decode FP.Core.b64 (enN s L c) = .fin s c ((L : Int) - 52) := by
  have hs : s.toNat ≤ 1 := by cases s <;> decide
  have e1 : enN s L c % 2 ^ 52 = c - 2 ^ 52 := by unfold enN; omega
  have e2 : enN s L c / 2 ^ 52 = s.toNat * 2048 + (L + 1023) := by unfold enN; omega
  have f1 : FP.Core.fieldT FP.Core.b64 (enN s L c) = c - 2 ^ 52 := by unfold FP.Core.fieldT; rw [fp_tails]; exact e1
  have f2 : FP.Core.fieldE FP.Core.b64 (enN s L c) = L + 1023 := by unfold FP.Core.fieldE; rw [fp_tails, fp_exps, e2]; omega
  have f3 : FP.Core.fieldS FP.Core.b64 (enN s L c) = s := by
    unfold FP.Core.fieldS
    rw [fp_tails, fp_exps, e2]
    have e3 : (s.toNat * 2048 + (L + 1023)) / 2048 = s.toNat := by omega
    rw [e3]
    cases s <;> rfl
  unfold FP.Core.decode
  rw [f1, f2, f3, fp_exps, if_neg (by omega), if_neg (by omega), fp_tails, fp_qmin, show 2 ^ 52 + (c - 2 ^ 52) = c by omega, show (-1074 + (((L + 1023 : Nat) : Int) - 1) : Int) = (L : Int) - 52 by omega]
theorem fp_decode0 : FP.Core.decode FP.Core.b64 0 = .fin false 0 (-1074) := by decide
def GN (n : Nat) : Prop := n = 0 ∨ ∃ (s : Bool) (L c : Nat), n = enN s L c ∧ 2 ^ 52 ≤ c ∧ c < 2 ^ 53 ∧ L ≤ 85 ∧ (L = 85 → c = 2 ^ 52) ∧ (L < 52 → 2 ^ (52 - L) ∣ c)
theorem enN_lt {s : Bool} {L c : Nat} (h1 : 2 ^ 52 ≤ c) (h2 : c < 2 ^ 53) (hL : L ≤ 900) : enN s L c < 2 ^ 64 := by
  have hs : s.toNat ≤ 1 := by cases s <;> decide
  unfold enN
  omega
theorem GN_lt {n : Nat} (h : GN n) : n < 2 ^ 64 := by
  rcases h with h | ⟨s, L, c, h, h1, h2, h3, -⟩
  · omega
  · rw [h]
    exact enN_lt h1 h2 (by omega)
theorem gdd_GN (x : Int64) : gdd x ↔ GN x.toUInt64.toNat := Iff.rfl
theorem fp_fromInt0 : FP.Core.fromInt FP.Core.b64 0 = 0 := by decide
theorem fp_fromInt {z : Int} (h0 : z ≠ 0) (hB : z.natAbs ≤ 2 ^ 85 + 2 ^ 31) : ∃ L c : Nat, FP.Core.fromInt FP.Core.b64 z = enN (decide (z < 0)) L c ∧ 2 ^ 52 ≤ c ∧ c < 2 ^ 53 ∧ L ≤ 85 ∧ (L = 85 → c = 2 ^ 52) ∧ (L < 52 → 2 ^ (52 - L) ∣ c) ∧ (z.natAbs.log2 ≤ 52 → L = z.natAbs.log2 ∧ c = z.natAbs * 2 ^ (52 - z.natAbs.log2)) := by
  obtain ⟨L, c, h1, h2, h3, h4, h5, h6, h7⟩ := fp_round (V := z.natAbs) (by omega) hB
  refine ⟨L, c, ?_, h2, h3, h4, h5, h6, h7⟩
  unfold FP.Core.fromInt FP.Core.ofInt FP.Core.round
  dsimp only
  rw [h1, fp_encode h2]
theorem GN_fromInt {z : Int} (hB : z.natAbs ≤ 2 ^ 85 + 2 ^ 31) : GN (FP.Core.fromInt FP.Core.b64 z) := by
  by_cases h0 : z = 0
  · rw [h0, fp_fromInt0]
    exact .inl rfl
  · obtain ⟨L, c, h1, h2, h3, h4, h5, h6, -⟩ := fp_fromInt h0 hB
    exact .inr ⟨_, L, c, h1, h2, h3, h4, h5, h6⟩
/-- the datum of a whole number m -/
def DZ (d : FP.Core.Datum) (m : Int) : Prop := ∃ (s : Bool) (c : Nat) (q : Int), d = .fin s c q ∧ (∀ k : Nat, -(k : Int) ≤ q → FP.Core.signed s (FP.Core.inUnits c q (-(k : Int))) = m * 2 ^ k) ∧ (s = true → m < 0)
theorem fp_units {c L k : Nat} (hd : L < 52 → 2 ^ (52 - L) ∣ c) (hk : -(k : Int) ≤ (L : Int) - 52) : FP.Core.inUnits c ((L : Int) - 52) (-(k : Int)) = (if 52 ≤ L then c * 2 ^ (L - 52) else c / 2 ^ (52 - L)) * 2 ^ k := by
  unfold FP.Core.inUnits
  by_cases h : 52 ≤ L
  · rw [if_pos h, show ((L : Int) - 52 - -(k : Int)).toNat = (L - 52) + k by omega, Nat.pow_add, Nat.mul_assoc]
  · rw [if_neg h]
    obtain ⟨c1, hc⟩ := hd (by omega)
    have hp := Nat.two_pow_pos (52 - L)
    rw [hc, Nat.mul_div_cancel_left _ hp, show k = (52 - L) + ((L : Int) - 52 - -(k : Int)).toNat by omega]
    rw [show ((L : Int) - 52 - -(((52 - L) + ((L : Int) - 52 - -(k : Int)).toNat : Nat) : Int)).toNat = ((L : Int) - 52 - -(k : Int)).toNat by omega]
    rw [Nat.pow_add]
    rw [Nat.mul_comm (2 ^ (52 - L)) c1, Nat.mul_assoc]
theorem fp_signed (s : Bool) (V k : Nat) : FP.Core.signed s (V * 2 ^ k) = FP.Core.signed s V * 2 ^ k := by
  unfold FP.Core.signed
  cases s with
  | false => simp
  | true => simp [Int.neg_mul]
theorem fp_DZ {s : Bool} {L c : Nat} (h1 : 2 ^ 52 ≤ c) (h2 : c < 2 ^ 53) (hL : L ≤ 85) (h5 : L = 85 → c = 2 ^ 52) (hd : L < 52 → 2 ^ (52 - L) ∣ c) : ∃ m : Int, m.natAbs ≤ 2 ^ 85 ∧ m = FP.Core.signed s (if 52 ≤ L then c * 2 ^ (L - 52) else c / 2 ^ (52 - L)) ∧ DZ (FP.Core.decode FP.Core.b64 (enN s L c)) m := by
  have hV : (if 52 ≤ L then c * 2 ^ (L - 52) else c / 2 ^ (52 - L)) ≤ 2 ^ 85 ∧ 0 < (if 52 ≤ L then c * 2 ^ (L - 52) else c / 2 ^ (52 - L)) := by
    by_cases h : 52 ≤ L
    · rw [if_pos h]
      have hp := Nat.two_pow_pos (L - 52)
      refine ⟨?_, Nat.mul_pos (by omega) hp⟩
      by_cases e : L = 85
      · rw [h5 e, e]
        decide
      · have a1 : 2 ^ (L - 52) ≤ 2 ^ 32 := Nat.pow_le_pow_right (by decide) (by omega)
        have a2 : c * 2 ^ (L - 52) ≤ 2 ^ 53 * 2 ^ 32 := Nat.mul_le_mul (by omega) a1
        rw [← Nat.pow_add] at a2
        exact a2
    · rw [if_neg h]
      have hp := Nat.two_pow_pos (52 - L)
      have := Nat.div_le_self c (2 ^ (52 - L))
      refine ⟨by omega, Nat.div_pos (Nat.le_of_dvd (by omega) (hd (by omega))) hp⟩
  refine ⟨_, ?_, rfl, s, c, (L : Int) - 52, fp_decode h1 h2 (by omega), fun k hk => ?_, fun hs => ?_⟩
  · unfold FP.Core.signed
    split <;> omega
  · rw [fp_units hd hk, fp_signed]
  · subst hs
    unfold FP.Core.signed
    rw [if_pos rfl]
    omega
theorem fp_intDZ (b : Int) (hb : b.natAbs ≤ 2 ^ 31) : ∃ (s : Bool) (c : Nat) (q : Int), FP.Core.decode FP.Core.b64 (FP.Core.fromInt FP.Core.b64 b) = .fin s c q ∧ q ≤ 0 ∧ (∀ k : Nat, -(k : Int) ≤ q → FP.Core.signed s (FP.Core.inUnits c q (-(k : Int))) = b * 2 ^ k) ∧ (s = true → b < 0) := by
  by_cases h0 : b = 0
  · subst h0
    rw [fp_fromInt0, fp_decode0]
    refine ⟨false, 0, -1074, rfl, by omega, fun k _ => ?_, fun z => by cases z⟩
    unfold FP.Core.inUnits FP.Core.signed
    simp
  · obtain ⟨L, c, h1, h2, h3, h4, h5, h6, h7⟩ := fp_fromInt h0 (by omega)
    have hn : b.natAbs ≠ 0 := by omega
    have hl : b.natAbs.log2 < 32 := (Nat.log2_lt hn).mpr (by omega)
    obtain ⟨e1, e2⟩ := h7 (by omega)
    rw [h1, fp_decode h2 h3 (by omega)]
    refine ⟨decide (b < 0), c, (L : Int) - 52, rfl, by omega, fun k hk => ?_, fun z => by simpa using z⟩
    rw [fp_units h6 hk, fp_signed, if_neg (by omega)]
    congr 1
    have e3 : c / 2 ^ (52 - L) = b.natAbs := by
      rw [e2, e1]
      exact Nat.mul_div_cancel _ (Nat.two_pow_pos _)
    rw [e3]
    unfold FP.Core.signed
    by_cases hs : b < 0
    · rw [decide_eq_true hs, if_pos rfl]
      omega
    · rw [decide_eq_false hs, if_neg (by decide)]
      omega
theorem fp_GDZ {n : Nat} (h : GN n) : ∃ m : Int, m.natAbs ≤ 2 ^ 85 ∧ DZ (FP.Core.decode FP.Core.b64 n) m := by
  rcases h with h | ⟨s, L, c, h, h1, h2, h3, h4, h5⟩
  · rw [h, fp_decode0]
    refine ⟨0, by decide, false, 0, -1074, rfl, fun k _ => ?_, fun z => by cases z⟩
    unfold FP.Core.inUnits FP.Core.signed
    simp
  · rw [h]
    obtain ⟨m, q1, -, q2⟩ := fp_DZ (s := s) h1 h2 h3 h4 h5
    exact ⟨m, q1, q2⟩
theorem fp_add {n : Nat} (h : GN n) {b : Int} (hb : b.natAbs ≤ 2 ^ 31) : ∃ z : Int, z.natAbs ≤ 2 ^ 85 + 2 ^ 31 ∧ FP.Core.add FP.Core.b64 n (FP.Core.fromInt FP.Core.b64 b) = FP.Core.fromInt FP.Core.b64 z := by
  obtain ⟨m, hm, s, c, q, e1, u1, s1⟩ := fp_GDZ h
  obtain ⟨t, d, r, e2, hr, u2, s2⟩ := fp_intDZ b hb
  refine ⟨m + b, by omega, ?_⟩
  unfold FP.Core.add
  rw [e1, e2]
  unfold FP.Core.exactSum
  obtain ⟨k, hk⟩ : ∃ k : Nat, min q r = -(k : Int) := ⟨(-(min q r)).toNat, by omega⟩
  have hU : FP.Core.sumUnits s c q t d r (-(k : Int)) = (m + b) * 2 ^ k := by
    unfold FP.Core.sumUnits
    rw [u1 k (by omega), u2 k (by omega), Int.add_mul]
  dsimp only
  rw [hk, hU]
  unfold FP.Core.round FP.Core.fromInt FP.Core.ofInt FP.Core.round
  dsimp only
  have hp : (0 : Int) < 2 ^ k := Int.pow_pos (by decide)
  by_cases h0 : m + b = 0
  · rw [h0]
    have e3 : FP.Core.sumSign s t (0 * 2 ^ k) = false := by
      unfold FP.Core.sumSign
      rw [Int.zero_mul, if_pos rfl]
      cases hs : s with
      | false => rfl
      | true =>
        cases ht : t with
        | false => rfl
        | true => have := s1 hs; have := s2 ht; omega
    have e4 : decide ((0 : Int) < 0) = false := by decide
    rw [e3, Int.zero_mul, e4]
    unfold FP.Core.roundRatio
    rw [if_pos (show Int.natAbs 0 = 0 from rfl), if_pos (show Int.natAbs 0 = 0 from rfl)]
  · have hne : (m + b) * 2 ^ k ≠ 0 := Int.mul_ne_zero h0 (by omega)
    have e3 : FP.Core.sumSign s t ((m + b) * 2 ^ k) = decide (m + b < 0) := by
      unfold FP.Core.sumSign
      rw [if_neg hne, decide_eq_decide]
      constructor
      · intro z
        by_cases z2 : m + b < 0
        · exact z2
        · have := Int.mul_pos (a := m + b) (b := 2 ^ k) (by omega) hp
          omega
      · intro z
        exact Int.mul_neg_of_neg_of_pos z hp
    have e4 : ((m + b) * 2 ^ k).natAbs = (m + b).natAbs * 2 ^ k := by
      rw [Int.natAbs_mul, Int.natAbs_pow]
      rfl
    rw [e3, e4, fp_scale _ _ (by omega)]
theorem gdd_add {x : Int64} (h : gdd x) (b : Int32) : gdd (FP.dadd x.toUInt64 (FP.i2d b)).toInt64 := by
  have hb : b.toInt.natAbs ≤ 2 ^ 31 := by
    have h1 := Int32.toInt_lt b
    have h2 := Int32.le_toInt b
    omega
  have e0 : (FP.i2d b).toNat = FP.Core.fromInt FP.Core.b64 b.toInt := by
    show (UInt64.ofNat _).toNat = _
    rw [UInt64.toNat_ofNat']
    exact Nat.mod_eq_of_lt (GN_lt (GN_fromInt (by omega)))
  obtain ⟨z, hz, e⟩ := fp_add ((gdd_GN x).mp h) hb
  rw [gdd_GN]
  have e1 : (FP.dadd x.toUInt64 (FP.i2d b)).toInt64.toUInt64 = UInt64.ofNat (FP.Core.add FP.Core.b64 x.toUInt64.toNat (FP.i2d b).toNat) := rfl
  rw [e1, e0, e, UInt64.toNat_ofNat', Nat.mod_eq_of_lt (GN_lt (GN_fromInt hz))]
  exact GN_fromInt hz
theorem gdd_l2d (v : Int64) : gdd (FP.l2d v).toInt64 := by
  have hb : v.toInt.natAbs ≤ 2 ^ 63 := by
    have h1 := Int64.toInt_lt v
    have h2 := Int64.le_toInt v
    omega
  rw [gdd_GN]
  have e1 : (FP.l2d v).toInt64.toUInt64 = UInt64.ofNat (FP.Core.fromInt FP.Core.b64 v.toInt) := rfl
  have hg : GN (FP.Core.fromInt FP.Core.b64 v.toInt) := GN_fromInt (by omega)
  rw [e1, UInt64.toNat_ofNat', Nat.mod_eq_of_lt (GN_lt hg)]
  exact hg
theorem GN_fin {n : Nat} (h : GN n) : n % 2 ^ 63 ≤ 2046 * 2 ^ 52 := by
  rcases h with h | ⟨s, L, c, h, h1, h2, h3, -⟩
  · omega
  · have hs : s.toNat ≤ 1 := by cases s <;> decide
    unfold enN at h
    omega
theorem gdd_n64 {x : Int64} (h : gdd x) : vf_n64 x.toUInt64 := by
  have := GN_fin ((gdd_GN x).mp h)
  unfold vf_n64
  rw [UInt64.le_iff_toNat_le, UInt64.toNat_and]
  have e1 : (0x7fffffffffffffff : UInt64).toNat = 2 ^ 63 - 1 := rfl
  have e2 : (0x7ff0000000000000 : UInt64).toNat = 2047 * 2 ^ 52 := rfl
  rw [e1, e2, Nat.and_two_pow_sub_one_eq_mod]
  omega
theorem gdd_sn {x : Int64} (h : gdd x) : vn_snl2d x = false := by
  have h1 := gdd_n64 h
  unfold vf_n64 at h1
  unfold vn_snl2d
  rw [decide_eq_false (by rw [gt_iff_lt, UInt64.not_lt]; exact h1)]
  rfl
