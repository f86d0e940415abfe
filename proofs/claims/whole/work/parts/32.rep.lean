/-! PURE: how the two memories hold the state. -/
def pF (f : Nat) : Bool := (100 ≤ f && f < 200) || (1100 ≤ f && f < 1700) || f == 402
def pL (f : Nat) : Bool := (500 ≤ f && f < 700) || (1700 ≤ f && f < 2000) || f == 403 || f == 404
def pC (f : Nat) : Bool := (200 ≤ f && f < 300) || (2000 ≤ f && f < 2100) || f == 702
def pM (f : Nat) : Bool := (300 ≤ f && f < 400) || (800 ≤ f && f < 900) || (2100 ≤ f && f < 2400) || (706 ≤ f && f < 713)
def pS (f : Nat) : Bool := f == 900 || f == 901 || f == 400 || f == 401 || f == 700 || f == 701 || f == 703 || f == 704 || f == 705
/-- the class's own fields, and the reference's -/
def pX (f : Nat) : Bool := f < 1000 || (1100 ≤ f && f < 2400)
def qF (f : Nat) : Bool := (2400 ≤ f && f < 3500) || f == 1001
def qL (f : Nat) : Bool := (3500 ≤ f && f < 4100) || f == 1013 || f == 1021
def qM (f : Nat) : Bool := (4100 ≤ f && f < 4200) || (4600 ≤ f && f < 6100) || f == 1028 || f == 1033 || (1044 ≤ f && f < 1050) || f == 1051
def qS (f : Nat) : Bool := (1002 ≤ f && f < 1013) || (1014 ≤ f && f < 1021) || f == 1022 || f == 1023 || f == 1026 || f == 1027 || (1029 ≤ f && f < 1033) || (1034 ≤ f && f < 1044) || f == 1050
def qX (f : Nat) : Bool := (1000 ≤ f && f < 1100) || (2400 ≤ f && f < 6100)
def ltb (a b : Nat) : Bool := decide (a < b)
theorem ltb_t {a b : Nat} (h : a < b) : ltb a b = true := decide_eq_true h
theorem ltb_f {a b : Nat} (h : b ≤ a) : ltb a b = false := decide_eq_false (Nat.not_lt.mpr h)
theorem upto_s (n f : Nat) : (if f = n then some n else upto n f) = upto (n + 1) f := by
  unfold upto
  by_cases h : f = n
  · rw [if_pos h, if_pos (by omega), h]
  · rw [if_neg h]
    by_cases h2 : f < n
    · rw [if_pos h2, if_pos (by omega)]
    · rw [if_neg h2, if_neg (by omega)]
theorem dec_s (n f : Nat) : (if f = n then true else ltb f n) = ltb f (n + 1) := by
  unfold ltb
  by_cases h : f = n
  · rw [if_pos h, eq_comm, decide_eq_true_eq]
    omega
  · rw [if_neg h, decide_eq_decide]
    omega
-- FILES
def IF (σ : SS) : Prop := z_nf σ ≤ 24 ∧ (∀ f, f < z_nf σ → z_inn σ f < 30) ∧ (∀ f n, z_sup σ f = some n → n < 30) ∧ (∀ f, z_lan σ f < 4) ∧ (∀ f, z_fcn σ f ≤ 2) ∧ (∀ f j, z_fnm σ f j < 30) ∧ (∀ f m, z_acn σ f m ≤ 5) ∧ (∀ f, z_nf σ ≤ f → z_fcn σ f = 0 ∧ (∀ m, z_acn σ f m = 0) ∧ z_ofd σ f = false)
/-- the references that the constructors set, once for all -/
def CFs (M : XM) : Prop := gR M 900 0 0 = some 0 ∧ gR M 901 0 0 = some 0 ∧ gR M 400 0 0 = some 0 ∧ gR M 401 0 0 = some 0 ∧ gR M 700 0 0 = some 0 ∧ gR M 701 0 0 = some 0 ∧ gR M 703 0 0 = some 0 ∧ gR M 704 0 0 = some 1 ∧ gR M 705 0 0 = some 0
def CF (M : XM) (σ : SS) : Prop := gI M 402 0 0 = nI (z_nf σ) ∧ (∀ f, gR M 1600 0 f = upto (z_nf σ) f) ∧ (∀ f, gV M 0 f = ltb f (z_nf σ)) ∧ (∀ f, gV M 10 f = ltb f (z_nf σ)) ∧ (∀ f, gV M 11 f = ltb f (z_nf σ)) ∧ (∀ f, gV M 12 f = ltb f (z_nf σ)) ∧ (∀ f, gV M 13 f = ltb f (z_nf σ)) ∧ (∀ f, gV M 14 f = ltb f (z_nf σ)) ∧
  (∀ f, f < z_nf σ → gR M 105 f 0 = some f ∧ gR M 107 f 0 = some f ∧ gR M 108 f 0 = some f ∧ gR M 109 f 0 = some f ∧ gR M 110 f 0 = some f) ∧
  (∀ f, f < z_nf σ → gI M 100 f 0 = nI (z_inn σ f) ∧ gI M 101 f 0 = o2i (z_sup σ f) ∧ gI M 102 f 0 = b2i (z_fac σ f) ∧ gI M 103 f 0 = b2i (z_las σ f) ∧ gI M 104 f 0 = nI (z_lan σ f) ∧ gI M 106 f 0 = nI (z_fcn σ f) ∧ gI M 111 f 0 = b2i (z_ofd σ f)) ∧
  (∀ f j, f < z_nf σ → j < z_fcn σ f → gI M 1100 f j = nI (z_fnm σ f j)) ∧ (∀ f m, f < z_nf σ → m < 3 → gI M 1200 f m = nI (z_acn σ f m)) ∧
  (∀ f m j, f < z_nf σ → m < 3 → j < z_acn σ f m → gI M 1300 f (m * 5 + j) = z_ak σ f (m * 5 + j) ∧ gI M 1400 f (m * 5 + j) = z_aa σ f (m * 5 + j) ∧ gI M 1500 f (m * 5 + j) = z_ab σ f (m * 5 + j))
/-- the reference's own arrays -/
def SR (M : XM) : Prop := ∀ f, qS f = true → gR M f 0 0 = some 0
def RF (M : XM) (σ : SS) : Prop := gI M 1001 0 0 = nI (z_nf σ) ∧
  (∀ f, f < z_nf σ → gI M 2400 0 f = nI (z_inn σ f) ∧ gI M 2500 0 f = o2i (z_sup σ f) ∧ gI M 2600 0 f = b2i (z_fac σ f) ∧ gI M 2700 0 f = b2i (z_las σ f) ∧ gI M 2800 0 f = nI (z_lan σ f)) ∧
  (∀ f, f < 24 → gI M 2900 0 f = nI (z_fcn σ f)) ∧ (∀ f j, f < z_nf σ → j < z_fcn σ f → gI M 3000 0 (2 * f + j) = nI (z_fnm σ f j)) ∧ (∀ f m, f < 24 → m < 3 → gI M 3100 0 (3 * f + m) = nI (z_acn σ f m)) ∧
  (∀ f m j, f < z_nf σ → m < 3 → j < z_acn σ f m → gI M 3200 0 (5 * (3 * f + m) + j) = z_ak σ f (m * 5 + j) ∧ gI M 3300 0 (5 * (3 * f + m) + j) = z_aa σ f (m * 5 + j) ∧ gI M 3400 0 (5 * (3 * f + m) + j) = z_ab σ f (m * 5 + j))
-- LOADERS AND CLASSES
/-- whether loader k is l itself or above it -/
def lbe (σ : SS) : Nat → Nat → Nat → Bool
  | 0, _, _ => false
  | n + 1, l, k => l == k || (match z_par σ l with
    | none => false
    | some p => lbe σ n p k)
def UP (σ : SS) (c u : Nat) : Prop := z_sp σ c = some u ∨ ∃ f j, z_off σ c = some f ∧ j < z_fcn σ f ∧ z_fc σ c j = u
def IL (σ : SS) : Prop := 1 ≤ z_nl σ ∧ z_nl σ ≤ 8 ∧ z_par σ 0 = none ∧ (∀ l, 0 < l → l < z_nl σ → ∃ p, z_par σ l = some p ∧ p < l) ∧ (∀ l, z_nl σ ≤ l → z_par σ l = none) ∧
  (∀ c f, z_off σ c = some f → c < 30 * z_nl σ ∧ f < z_nf σ ∧ z_ofd σ f = true) ∧ (∀ f, z_ofd σ f = true → ∃ c, z_off σ c = some f) ∧ (∀ c, z_the σ c = true → ∃ f, z_off σ c = some f) ∧ (∀ c, z_mk σ c = true → ∃ f, z_off σ c = some f)
/-- the classes that are there -/
def IT (σ : SS) : Prop := ∀ c, z_the σ c = true → (∀ u, UP σ c u → z_the σ u = true ∧ z_rk σ u < z_rk σ c ∧ lbe σ 9 (c / 30) (u / 30) = true) ∧ (∀ d, z_bt σ c d = true ↔ d = c ∨ ∃ u, UP σ c u ∧ z_bt σ u d = true) ∧ z_abv σ c = (match z_sp σ c with
  | none => 0
  | some s => z_abv σ s + 1) ∧ z_abv σ c ≤ 12 ∧ z_rk σ c < z_mad σ ∧ z_mk σ c = false
def bitOf (x : Int64) (d : Nat) : Bool := x.toBitVec.getLsbD d
def CL0 (M : XM) (σ : SS) : Prop := gI M 403 0 0 = nI (z_nl σ) ∧ gI M 404 0 0 = nI (z_mad σ) ∧ (∀ l, gR M 1700 0 l = upto (z_nl σ) l) ∧ (∀ l, gV M 5 l = ltb l (z_nl σ)) ∧ (∀ l, gV M 18 l = ltb l (z_nl σ)) ∧
  (∀ l, l < z_nl σ → gI M 600 l 0 = nI l ∧ gR M 601 l 0 = z_par σ l ∧ gR M 602 l 0 = some l ∧ gI M 603 l 0 = nI (cnt (fun n => (z_off σ (30 * l + n)).isSome) 30) ∧ gI M 604 l 0 = nI (cnt (fun n => z_the σ (30 * l + n)) 30)) ∧
  (∀ l n, l < z_nl σ → n < 30 → gR M 1900 l n = (z_off σ (30 * l + n)).map (fun _ => 30 * l + n)) ∧ (∀ c, gV M 4 c = (z_off σ c).isSome) ∧ (∀ c, gV M 17 c = (z_off σ c).isSome)
def CLc (M : XM) (σ : SS) : Prop := ∀ c f, z_off σ c = some f → gR M 500 c 0 = some (c / 30) ∧ gI M 501 c 0 = nI (c % 30) ∧ gR M 502 c 0 = some f ∧ gI M 503 c 0 = nI c ∧ gR M 504 c 0 = some c ∧ gI M 507 c 0 = b2i (z_the σ c) ∧ gI M 508 c 0 = b2i (z_mk σ c) ∧ gR M 505 c 0 = z_sp σ c ∧ gI M 506 c 0 = nI (z_abv σ c) ∧ (∀ w j, w < 4 → j < 64 → bitOf (gL M 1800 c w) j = z_bt σ c (64 * w + j))
def RLd (M : XM) (σ : SS) : Prop := gI M 1013 0 0 = nI (z_nl σ) ∧ gI M 1021 0 0 = nI (z_mad σ) ∧ (∀ l, l < z_nl σ → gI M 3500 0 l = o2i (z_par σ l)) ∧ (∀ c, c < 240 → gI M 3600 0 c = o2i (z_off σ c) ∧ gI M 3700 0 c = b2i (z_the σ c) ∧ gI M 3800 0 c = b2i (z_mk σ c)) ∧ (∀ c, z_the σ c = true ∨ z_mk σ c = true → gI M 3900 0 c = o2i (z_sp σ c)) ∧ (∀ c j, c < 240 → j < 2 → gI M 4000 0 (2 * c + j) = nI (z_fc σ c j))
-- CONTRACTS
def IC (σ : SS) : Prop := z_nc σ ≤ 10 ∧ (∀ i, i < z_nc σ → z_cl σ i < z_nl σ ∧ z_cn σ i < 30 ∧ z_cla σ i < 4)
def CC (M : XM) (σ : SS) : Prop := gI M 702 0 0 = nI (z_nc σ) ∧ (∀ i, gR M 2000 0 i = upto (z_nc σ) i) ∧ (∀ i, gV M 1 i = ltb i (z_nc σ)) ∧ (∀ i, i < z_nc σ → gI M 200 i 0 = nI i ∧ gI M 201 i 0 = nI (z_cla σ i) ∧ gR M 202 i 0 = some (z_cl σ i) ∧ gI M 203 i 0 = nI (z_cn σ i))
def RC (M : XM) (σ : SS) : Prop := gI M 1028 0 0 = nI (z_nc σ) ∧ (∀ i, i < z_nc σ → gI M 4600 0 i = nI (z_cl σ i) ∧ gI M 4700 0 i = nI (z_cn σ i) ∧ gI M 4800 0 i = nI (z_cla σ i))
-- ROWS, AND WHAT CALLS LEAVE
/-- the class's rows number q are ρ -/
def RWS (M : XM) (σ : SS) (q : Nat) (ρ : Nat → Int64) : Prop := ∀ k, k < 40 → (k / 4 < z_nc σ → (z_cla σ (k / 4) = 3 → gD M 2300 q k = (ρ k).toUInt64) ∧ (¬ z_cla σ (k / 4) = 3 → gL M 2200 q k = ρ k)) ∧ (¬ k / 4 < z_nc σ → gD M 2300 q k = 0 ∧ gL M 2200 q k = 0 ∧ ρ k = 0)
def CM (M : XM) (σ : SS) : Prop := gR M 800 0 0 = some 0 ∧ gR M 801 0 0 = some 0 ∧ gR M 800 1 0 = some 1 ∧ gR M 801 1 0 = some 1 ∧ RWS M σ 0 (z_row σ) ∧
  gI M 706 0 0 = 0 ∧ gI M 707 0 0 = 0 ∧ gI M 708 0 0 = nI (z_mst σ) ∧ gI M 709 0 0 = nI (z_beg σ) ∧ gI M 710 0 0 = nI (z_stp σ) ∧ gL M 712 0 0 = z_lst σ ∧
  (∀ j, gV M 2 j = (gR M 2100 0 j).isSome ∧ (∀ i, gR M 2100 0 j = some i → i = j) ∧ (∀ i, gR M 307 j 0 = some i → i = j + 2) ∧ (gR M 2100 0 j = none → gR M 307 j 0 = none)) ∧ (∀ q, gV M 7 q = (ltb q (2) || (gR M 307 (q - 2) 0).isSome) ∧ gV M 21 q = gV M 7 q ∧ gV M 22 q = gV M 7 q) ∧ (∀ q, gV M 7 q = true → gR M 800 q 0 = some q ∧ gR M 801 q 0 = some q)
def RM (M : XM) (σ : SS) : Prop := gI M 1044 0 0 = 0 ∧ gI M 1045 0 0 = nI (z_mst σ) ∧ gI M 1046 0 0 = nI (z_beg σ) ∧ gI M 1047 0 0 = nI (z_stp σ) ∧ gL M 1051 0 0 = z_lst σ ∧ (∀ c, c < 240 → gI M 4100 0 c = 0) ∧ (∀ k, k < 40 → gL M 4900 0 k = z_row σ k)
-- frames
theorem CFs_sm {M M' : XM} (h : Sm pS M M') (hC : CFs M) : CFs M' := by
  simpa (decide := true) only [CFs, sm_R h] using hC
theorem CF_sm {M M' : XM} {σ : SS} (h : Sm pF M M') (hC : CF M σ) : CF M' σ := by
  simpa (decide := true) only [CF, sm_R h, sm_I h, sm_V h] using hC
theorem CL0_sm {M M' : XM} {σ : SS} (h : Sm pL M M') (hC : CL0 M σ) : CL0 M' σ := by
  simpa (decide := true) only [CL0, sm_R h, sm_I h, sm_V h] using hC
theorem CLc_sm {M M' : XM} {σ : SS} (h : Sm pL M M') (hC : CLc M σ) : CLc M' σ := by
  simpa (decide := true) only [CLc, sm_R h, sm_I h, sm_V h, sm_L h] using hC
theorem CC_sm {M M' : XM} {σ : SS} (h : Sm pC M M') (hC : CC M σ) : CC M' σ := by
  simpa (decide := true) only [CC, sm_R h, sm_I h, sm_V h] using hC
theorem RWS_sm {M M' : XM} {σ : SS} (h : Sm pM M M') {q : Nat} {ρ : Nat → Int64} (hC : RWS M σ q ρ) : RWS M' σ q ρ := by
  simpa (decide := true) only [RWS, sm_D h, sm_L h] using hC
theorem CM_sm {M M' : XM} {σ : SS} (h : Sm pM M M') (hC : CM M σ) : CM M' σ := by
  simpa (decide := true) only [CM, RWS, sm_R h, sm_I h, sm_V h, sm_D h, sm_L h] using hC
theorem SR_sm {M M' : XM} (h : Sm qS M M') (hC : SR M) : SR M' := fun f hf => (sm_R h hf 0 0).trans (hC f hf)
theorem RF_sm {M M' : XM} {σ : SS} (h : Sm qF M M') (hC : RF M σ) : RF M' σ := by
  simpa (decide := true) only [RF, sm_I h] using hC
theorem RLd_sm {M M' : XM} {σ : SS} (h : Sm qL M M') (hC : RLd M σ) : RLd M' σ := by
  simpa (decide := true) only [RLd, sm_I h] using hC
theorem RC_sm {M M' : XM} {σ : SS} (h : Sm qM M M') (hC : RC M σ) : RC M' σ := by
  simpa (decide := true) only [RC, sm_I h] using hC
theorem RM_sm {M M' : XM} {σ : SS} (h : Sm qM M M') (hC : RM M σ) : RM M' σ := by
  simpa (decide := true) only [RM, sm_I h, sm_L h] using hC
/-- the class's side, the reference's -/
def CLS (M : XM) (σ : SS) : Prop := CFs M ∧ CF M σ ∧ CL0 M σ ∧ CLc M σ ∧ CC M σ ∧ CM M σ
def REF (M : XM) (σ : SS) : Prop := SR M ∧ RF M σ ∧ RLd M σ ∧ RC M σ ∧ RM M σ
theorem CLS_sm {M M' : XM} {σ : SS} (h : Sm pX M M') (hC : CLS M σ) : CLS M' σ :=
  ⟨CFs_sm (sm_sub h (fun f q => by simp only [pS, pX, Bool.or_eq_true, Bool.and_eq_true, decide_eq_true_eq, beq_iff_eq] at *; omega)) hC.1,
   CF_sm (sm_sub h (fun f q => by simp only [pF, pX, Bool.or_eq_true, Bool.and_eq_true, decide_eq_true_eq, beq_iff_eq] at *; omega)) hC.2.1,
   CL0_sm (sm_sub h (fun f q => by simp only [pL, pX, Bool.or_eq_true, Bool.and_eq_true, decide_eq_true_eq, beq_iff_eq] at *; omega)) hC.2.2.1,
   CLc_sm (sm_sub h (fun f q => by simp only [pL, pX, Bool.or_eq_true, Bool.and_eq_true, decide_eq_true_eq, beq_iff_eq] at *; omega)) hC.2.2.2.1,
   CC_sm (sm_sub h (fun f q => by simp only [pC, pX, Bool.or_eq_true, Bool.and_eq_true, decide_eq_true_eq, beq_iff_eq] at *; omega)) hC.2.2.2.2.1,
   CM_sm (sm_sub h (fun f q => by simp only [pM, pX, Bool.or_eq_true, Bool.and_eq_true, decide_eq_true_eq, beq_iff_eq] at *; omega)) hC.2.2.2.2.2⟩
theorem REF_sm {M M' : XM} {σ : SS} (h : Sm qX M M') (hC : REF M σ) : REF M' σ :=
  ⟨SR_sm (sm_sub h (fun f q => by simp only [qS, qX, Bool.or_eq_true, Bool.and_eq_true, decide_eq_true_eq, beq_iff_eq] at *; omega)) hC.1,
   RF_sm (sm_sub h (fun f q => by simp only [qF, qX, Bool.or_eq_true, Bool.and_eq_true, decide_eq_true_eq, beq_iff_eq] at *; omega)) hC.2.1,
   RLd_sm (sm_sub h (fun f q => by simp only [qL, qX, Bool.or_eq_true, Bool.and_eq_true, decide_eq_true_eq, beq_iff_eq] at *; omega)) hC.2.2.1,
   RC_sm (sm_sub h (fun f q => by simp only [qM, qX, Bool.or_eq_true, Bool.and_eq_true, decide_eq_true_eq, beq_iff_eq] at *; omega)) hC.2.2.2.1,
   RM_sm (sm_sub h (fun f q => by simp only [qM, qX, Bool.or_eq_true, Bool.and_eq_true, decide_eq_true_eq, beq_iff_eq] at *; omega)) hC.2.2.2.2⟩
theorem SR_all {M : XM} (h : SR M) : gR M 1002 0 0 = some 0 ∧ gR M 1003 0 0 = some 0 ∧ gR M 1004 0 0 = some 0 ∧ gR M 1005 0 0 = some 0 ∧ gR M 1006 0 0 = some 0 ∧ gR M 1007 0 0 = some 0 ∧ gR M 1008 0 0 = some 0 ∧ gR M 1009 0 0 = some 0 ∧ gR M 1010 0 0 = some 0 ∧ gR M 1011 0 0 = some 0 ∧ gR M 1012 0 0 = some 0 ∧ gR M 1014 0 0 = some 0 ∧ gR M 1015 0 0 = some 0 ∧ gR M 1016 0 0 = some 0 ∧ gR M 1017 0 0 = some 0 ∧ gR M 1018 0 0 = some 0 ∧ gR M 1019 0 0 = some 0 ∧ gR M 1020 0 0 = some 0 ∧ gR M 1022 0 0 = some 0 ∧ gR M 1023 0 0 = some 0 ∧ gR M 1026 0 0 = some 0 ∧ gR M 1027 0 0 = some 0 ∧ gR M 1029 0 0 = some 0 ∧ gR M 1030 0 0 = some 0 ∧ gR M 1031 0 0 = some 0 ∧ gR M 1032 0 0 = some 0 ∧ gR M 1034 0 0 = some 0 ∧ gR M 1035 0 0 = some 0 ∧ gR M 1036 0 0 = some 0 ∧ gR M 1037 0 0 = some 0 ∧ gR M 1038 0 0 = some 0 ∧ gR M 1039 0 0 = some 0 ∧ gR M 1040 0 0 = some 0 ∧ gR M 1041 0 0 = some 0 ∧ gR M 1042 0 0 = some 0 ∧ gR M 1043 0 0 = some 0 ∧ gR M 1050 0 0 = some 0 := ⟨h 1002 rfl, h 1003 rfl, h 1004 rfl, h 1005 rfl, h 1006 rfl, h 1007 rfl, h 1008 rfl, h 1009 rfl, h 1010 rfl, h 1011 rfl, h 1012 rfl, h 1014 rfl, h 1015 rfl, h 1016 rfl, h 1017 rfl, h 1018 rfl, h 1019 rfl, h 1020 rfl, h 1022 rfl, h 1023 rfl, h 1026 rfl, h 1027 rfl, h 1029 rfl, h 1030 rfl, h 1031 rfl, h 1032 rfl, h 1034 rfl, h 1035 rfl, h 1036 rfl, h 1037 rfl, h 1038 rfl, h 1039 rfl, h 1040 rfl, h 1041 rfl, h 1042 rfl, h 1043 rfl, h 1050 rfl⟩
theorem b2i_01 (b : Bool) : b2i b = 0 ∨ b2i b = 1 := by cases b <;> simp [b2i]
theorem v_X9_inl {l : Launch} {D : DX} {b0 : Nat} {M : XM} {post : XM → Option XV → Prop} {x : Int32} {b : Int64} (n : Nat) (hb : b.toInt = (n : Int) - 1) (h1 : vp_in x n → post M (some (vI 1))) (h0 : ¬ vp_in x n → post M (some (vI 0))) : xMet l D b0 1 0 0 yX9_in cX9_in 6 (some FieldType.boolean) [vL x.toInt64, vL 0, vL b] M post := by
  have e1 : (0 : Int64).toInt = 0 := rfl
  refine v_X9_in (fun a c => h1 ?_) (fun a => h0 ?_)
  · simp only [xle_64, Int32.toInt_toInt64, hb] at a c
    rw [vp_in_iff]
    omega
  · simp only [xle_64, Int32.toInt_toInt64, hb] at a
    rw [vp_in_iff]
    omega
/-- the doubles that rows hold -/
def gdd (x : Int64) : Prop := x.toUInt64.toNat = 0 ∨ ∃ (s : Bool) (L c : Nat), x.toUInt64.toNat = (s.toNat * 2048 + (L + 1023)) * 2 ^ 52 + (c - 2 ^ 52) ∧ 2 ^ 52 ≤ c ∧ c < 2 ^ 53 ∧ L ≤ 85 ∧ (L = 85 → c = 2 ^ 52) ∧ (L < 52 → 2 ^ (52 - L) ∣ c)
def IR (σ : SS) (ρ : Nat → Int64) : Prop := ∀ k, k < 40 → k / 4 < z_nc σ → z_cla σ (k / 4) = 3 → gdd (ρ k)
def actok (k a b : Int32) : Prop := vp_in k 12 ∧ (k = 6 ∨ k = 7 → vp_in a 30) ∧ (k = 8 → vp_in a 10) ∧ (k = 5 → vp_in b 90)
/-- the acts are good ones -/
def IA (σ : SS) : Prop := ∀ f m j, m < 3 → j < z_acn σ f m → actok (z_ak σ f (m * 5 + j)) (z_aa σ f (m * 5 + j)) (z_ab σ f (m * 5 + j))
def IV (σ : SS) : Prop := IF σ ∧ IL σ ∧ IT σ ∧ IC σ ∧ IR σ (z_row σ) ∧ (∀ c, z_mk σ c = false) ∧ z_stp σ ≤ 5000 ∧ IA σ
def J (M : XM) (σ : SS) : Prop := CLS M σ ∧ REF M σ ∧ IV σ
def JJ (M : XM) : Prop := ∃ σ, J M σ
/-- all fields that speak of the state -/
def pA (f : Nat) : Bool := pX f || qF f || qL f || qM f || qS f
def qA (f : Nat) : Bool := qF f || qL f || qM f || qS f
theorem REF_sq {M M' : XM} {σ : SS} (h : Sm qA M M') (hC : REF M σ) : REF M' σ :=
  ⟨SR_sm (sm_sub h (fun f q => by simp only [qA, Bool.or_eq_true] at *; simp [q])) hC.1,
   RF_sm (sm_sub h (fun f q => by simp only [qA, Bool.or_eq_true] at *; simp [q])) hC.2.1,
   RLd_sm (sm_sub h (fun f q => by simp only [qA, Bool.or_eq_true] at *; simp [q])) hC.2.2.1,
   RC_sm (sm_sub h (fun f q => by simp only [qA, Bool.or_eq_true] at *; simp [q])) hC.2.2.2.1,
   RM_sm (sm_sub h (fun f q => by simp only [qA, Bool.or_eq_true] at *; simp [q])) hC.2.2.2.2⟩
theorem J_sm {M M' : XM} {σ : SS} (h : Sm pA M M') (hJ : J M σ) : J M' σ :=
  ⟨CLS_sm (sm_sub h (fun f q => by simp only [pA, Bool.or_eq_true] at *; simp [q])) hJ.1, REF_sq (sm_sub h (fun f q => by simp only [pA, qA, Bool.or_eq_true] at *; rcases q with ((q | q) | q) | q <;> simp [q])) hJ.2.1, hJ.2.2⟩
theorem J_t {M : XM} {σ : SS} (hJ : J M σ) : J (sI M 1000 0 0 0) σ := J_sm (sm_sI rfl (sm_refl _ _)) hJ
/-! states that are alike in a group of fields -/
def tF (σ τ : SS) : Prop := z_nf τ = z_nf σ ∧ z_inn τ = z_inn σ ∧ z_sup τ = z_sup σ ∧ z_fac τ = z_fac σ ∧ z_las τ = z_las σ ∧ z_lan τ = z_lan σ ∧ z_fcn τ = z_fcn σ ∧ z_fnm τ = z_fnm σ ∧ z_acn τ = z_acn σ ∧ z_ak τ = z_ak σ ∧ z_aa τ = z_aa σ ∧ z_ab τ = z_ab σ ∧ z_ofd τ = z_ofd σ
def tL (σ τ : SS) : Prop := z_nl τ = z_nl σ ∧ z_par τ = z_par σ ∧ z_off τ = z_off σ ∧ z_the τ = z_the σ ∧ z_sp τ = z_sp σ ∧ z_fc τ = z_fc σ ∧ z_mad τ = z_mad σ ∧ z_mk τ = z_mk σ ∧ z_abv τ = z_abv σ ∧ z_bt τ = z_bt σ ∧ z_rk τ = z_rk σ
def tC (σ τ : SS) : Prop := z_nc τ = z_nc σ ∧ z_cl τ = z_cl σ ∧ z_cn τ = z_cn σ ∧ z_cla τ = z_cla σ
def tM (σ τ : SS) : Prop := z_row τ = z_row σ ∧ z_stp τ = z_stp σ ∧ z_beg τ = z_beg σ ∧ z_mst τ = z_mst σ ∧ z_lst τ = z_lst σ
theorem CF_st {M : XM} {σ τ : SS} (hsF : tF σ τ) (hC : CF M σ) : CF M τ := by
  obtain ⟨e_nf, e_inn, e_sup, e_fac, e_las, e_lan, e_fcn, e_fnm, e_acn, e_ak, e_aa, e_ab, e_ofd⟩ := hsF
  simpa only [CF, e_nf, e_inn, e_sup, e_fac, e_las, e_lan, e_fcn, e_fnm, e_acn, e_ak, e_aa, e_ab, e_ofd] using hC
theorem RF_st {M : XM} {σ τ : SS} (hsF : tF σ τ) (hC : RF M σ) : RF M τ := by
  obtain ⟨e_nf, e_inn, e_sup, e_fac, e_las, e_lan, e_fcn, e_fnm, e_acn, e_ak, e_aa, e_ab, e_ofd⟩ := hsF
  simpa only [RF, e_nf, e_inn, e_sup, e_fac, e_las, e_lan, e_fcn, e_fnm, e_acn, e_ak, e_aa, e_ab, e_ofd] using hC
theorem IF_st {σ τ : SS} (hsF : tF σ τ) (hC : IF σ) : IF τ := by
  obtain ⟨e_nf, e_inn, e_sup, e_fac, e_las, e_lan, e_fcn, e_fnm, e_acn, e_ak, e_aa, e_ab, e_ofd⟩ := hsF
  simpa only [IF, e_nf, e_inn, e_sup, e_fac, e_las, e_lan, e_fcn, e_fnm, e_acn, e_ak, e_aa, e_ab, e_ofd] using hC
theorem IA_st {σ τ : SS} (hsF : tF σ τ) (hC : IA σ) : IA τ := by
  obtain ⟨e_nf, e_inn, e_sup, e_fac, e_las, e_lan, e_fcn, e_fnm, e_acn, e_ak, e_aa, e_ab, e_ofd⟩ := hsF
  simpa only [IA, e_acn, e_ak, e_aa, e_ab] using hC
theorem CL0_st {M : XM} {σ τ : SS} (hsL : tL σ τ) (hC : CL0 M σ) : CL0 M τ := by
  obtain ⟨e_nl, e_par, e_off, e_the, e_sp, e_fc, e_mad, e_mk, e_abv, e_bt, e_rk⟩ := hsL
  simpa only [CL0, e_nl, e_par, e_off, e_the, e_sp, e_fc, e_mad, e_mk, e_abv, e_bt, e_rk] using hC
theorem CLc_st {M : XM} {σ τ : SS} (hsL : tL σ τ) (hC : CLc M σ) : CLc M τ := by
  obtain ⟨e_nl, e_par, e_off, e_the, e_sp, e_fc, e_mad, e_mk, e_abv, e_bt, e_rk⟩ := hsL
  simpa only [CLc, e_nl, e_par, e_off, e_the, e_sp, e_fc, e_mad, e_mk, e_abv, e_bt, e_rk] using hC
theorem RLd_st {M : XM} {σ τ : SS} (hsL : tL σ τ) (hC : RLd M σ) : RLd M τ := by
  obtain ⟨e_nl, e_par, e_off, e_the, e_sp, e_fc, e_mad, e_mk, e_abv, e_bt, e_rk⟩ := hsL
  simpa only [RLd, e_nl, e_par, e_off, e_the, e_sp, e_fc, e_mad, e_mk, e_abv, e_bt, e_rk] using hC
theorem lbe_st {σ τ : SS} (h : z_par τ = z_par σ) (n l k : Nat) : lbe τ n l k = lbe σ n l k := by
  induction n generalizing l with
  | zero => rfl
  | succ n ih => simp only [lbe, h, ih]
theorem IL_st {σ τ : SS} (hsF : tF σ τ) (hsL : tL σ τ) (hC : IL σ) : IL τ := by
  obtain ⟨e_nf, e_inn, e_sup, e_fac, e_las, e_lan, e_fcn, e_fnm, e_acn, e_ak, e_aa, e_ab, e_ofd⟩ := hsF
  obtain ⟨e_nl, e_par, e_off, e_the, e_sp, e_fc, e_mad, e_mk, e_abv, e_bt, e_rk⟩ := hsL
  simpa only [IL, e_nf, e_inn, e_sup, e_fac, e_las, e_lan, e_fcn, e_fnm, e_acn, e_ak, e_aa, e_ab, e_ofd, e_nl, e_par, e_off, e_the, e_sp, e_fc, e_mad, e_mk, e_abv, e_bt, e_rk] using hC
theorem IT_st {σ τ : SS} (hf : z_fcn τ = z_fcn σ) (hL : tL σ τ) (hC : IT σ) : IT τ := by
  obtain ⟨e_nl, e_par, e_off, e_the, e_sp, e_fc, e_mad, e_mk, e_abv, e_bt, e_rk⟩ := hL
  simpa only [IT, UP, lbe_st e_par, hf, e_nl, e_off, e_the, e_sp, e_fc, e_mad, e_mk, e_abv, e_bt, e_rk] using hC
theorem CC_st {M : XM} {σ τ : SS} (hsC : tC σ τ) (hC : CC M σ) : CC M τ := by
  obtain ⟨e_nc, e_cl, e_cn, e_cla⟩ := hsC
  simpa only [CC, e_nc, e_cl, e_cn, e_cla] using hC
theorem RC_st {M : XM} {σ τ : SS} (hsC : tC σ τ) (hC : RC M σ) : RC M τ := by
  obtain ⟨e_nc, e_cl, e_cn, e_cla⟩ := hsC
  simpa only [RC, e_nc, e_cl, e_cn, e_cla] using hC
theorem IC_st {σ τ : SS} (hn : z_nl τ = z_nl σ) (hC : tC σ τ) (h : IC σ) : IC τ := by
  obtain ⟨e_nc, e_cl, e_cn, e_cla⟩ := hC
  simpa only [IC, hn, e_nc, e_cl, e_cn, e_cla] using h
theorem RWS_st {M : XM} {σ τ : SS} (hC : tC σ τ) {q : Nat} {ρ : Nat → Int64} (h : RWS M σ q ρ) : RWS M τ q ρ := by
  obtain ⟨e_nc, e_cl, e_cn, e_cla⟩ := hC
  simpa only [RWS, e_nc, e_cl, e_cn, e_cla] using h
theorem IR_st {σ τ : SS} (hC : tC σ τ) {ρ : Nat → Int64} (h : IR σ ρ) : IR τ ρ := by
  obtain ⟨e_nc, e_cl, e_cn, e_cla⟩ := hC
  simpa only [IR, e_nc, e_cl, e_cn, e_cla] using h
theorem CM_st {M : XM} {σ τ : SS} (hsC : tC σ τ) (hsM : tM σ τ) (hC : CM M σ) : CM M τ := by
  obtain ⟨e_nc, e_cl, e_cn, e_cla⟩ := hsC
  obtain ⟨e_row, e_stp, e_beg, e_mst, e_lst⟩ := hsM
  simpa only [CM, RWS, e_nc, e_cl, e_cn, e_cla, e_row, e_stp, e_beg, e_mst, e_lst] using hC
theorem RM_st {M : XM} {σ τ : SS} (hsM : tM σ τ) (hC : RM M σ) : RM M τ := by
  obtain ⟨e_row, e_stp, e_beg, e_mst, e_lst⟩ := hsM
  simpa only [RM, e_row, e_stp, e_beg, e_mst, e_lst] using hC
