/-! PURE: numbers of the two sides for simp; memories that are alike. -/
-- numbers: rows with side conditions for omega
theorem y_ltI {a b : Nat} (ha : a < 2147483648) (hb : b < 2147483648) : (nI a < nI b) = (a < b) := propext (nI_ltI ha hb)
theorem y_leI {a b : Nat} (ha : a < 2147483648) (hb : b < 2147483648) : (nI a ≤ nI b) = (a ≤ b) := propext (nI_leI ha hb)
theorem y_eqI {a b : Nat} (ha : a < 2147483648) (hb : b < 2147483648) : (nI a = nI b) = (a = b) := propext (nI_eq ha hb)
theorem y_ltl {a b : Nat} (ha : a < 2147483648) (hb : (OfNat.ofNat b : Nat) < 2147483648) : (nI a < (no_index (OfNat.ofNat b) : Int32)) = (a < (OfNat.ofNat b : Nat)) := propext (nI_ltI ha hb)
theorem y_lel {a b : Nat} (ha : a < 2147483648) (hb : (OfNat.ofNat b : Nat) < 2147483648) : (nI a ≤ (no_index (OfNat.ofNat b) : Int32)) = (a ≤ (OfNat.ofNat b : Nat)) := propext (nI_leI ha hb)
theorem y_eql {a b : Nat} (ha : a < 2147483648) (hb : (OfNat.ofNat b : Nat) < 2147483648) : (nI a = (no_index (OfNat.ofNat b) : Int32)) = (a = (OfNat.ofNat b : Nat)) := propext (nI_eq ha hb)
theorem y_lle {a b : Nat} (ha : a < 2147483648) (hb : (OfNat.ofNat b : Nat) < 2147483648) : ((no_index (OfNat.ofNat b) : Int32) ≤ nI a) = ((OfNat.ofNat b : Nat) ≤ a) := propext (nI_leI hb ha)
theorem y_llt {a b : Nat} (ha : a < 2147483648) (hb : (OfNat.ofNat b : Nat) < 2147483648) : ((no_index (OfNat.ofNat b) : Int32) < nI a) = ((OfNat.ofNat b : Nat) < a) := propext (nI_ltI hb ha)
theorem y_leq {a b : Nat} (ha : a < 2147483648) (hb : (OfNat.ofNat b : Nat) < 2147483648) : ((no_index (OfNat.ofNat b) : Int32) = nI a) = ((OfNat.ofNat b : Nat) = a) := propext (nI_eq hb ha)
theorem y_m1 {a : Nat} (ha : a < 2147483648) : (nI a = -1) = False := by
  refine eq_false (fun h => ?_)
  have h1 : (nI a).toInt = (-1 : Int32).toInt := by rw [h]
  rw [nI_toInt ha] at h1
  have e1 : (-1 : Int32).toInt = -1 := rfl
  omega
theorem y_neg {a : Nat} (ha : a < 2147483648) : (nI a < 0) = False := eq_false (nI_pos ha)
theorem y_nn {a : Nat} (ha : a < 2147483648) : (0 ≤ nI a) = True := eq_true (nI_pos' ha)
theorem y_cl {a : Nat} (ha : a < 2147483648) : (nI a).toNatClampNeg = a := nI_clamp ha
theorem y_in {a n : Nat} (h : a < n) (hn : n < 2147483648) : vp_in (nI a) n = True := eq_true (vp_in_nI h hn)
theorem y_add (a b : Nat) : nI a + nI b = nI (a + b) := nI_add a b
theorem y_addl (a b : Nat) : nI a + (no_index (OfNat.ofNat b) : Int32) = nI (a + (OfNat.ofNat b : Nat)) := nI_add a b
theorem y_ladd (a b : Nat) : (no_index (OfNat.ofNat b) : Int32) + nI a = nI ((OfNat.ofNat b : Nat) + a) := nI_add b a
theorem y_mul (a b : Nat) : nI a * nI b = nI (a * b) := pk_mul a b
theorem y_mull (a b : Nat) : nI a * (no_index (OfNat.ofNat b) : Int32) = nI (a * (OfNat.ofNat b : Nat)) := pk_mul a b
theorem y_lmul (a b : Nat) : (no_index (OfNat.ofNat b) : Int32) * nI a = nI ((OfNat.ofNat b : Nat) * a) := pk_mul b a
theorem y_sub {a b : Nat} (h : b ≤ a) : nI a - nI b = nI (a - b) := pk_sub h
theorem y_subl {a b : Nat} (h : (OfNat.ofNat b : Nat) ≤ a) : nI a - (no_index (OfNat.ofNat b) : Int32) = nI (a - (OfNat.ofNat b : Nat)) := pk_sub h
theorem y_am1 {a : Nat} (h : 1 ≤ a) : nI a + (-1) = nI (a - 1) := by
  obtain ⟨b, rfl⟩ : ∃ b, a = b + 1 := ⟨a - 1, by omega⟩
  exact pk_m1 b
theorem y_divl {a d : Nat} (ha : a < 2147483648) (h0 : 0 < (OfNat.ofNat d : Nat)) (hd : (OfNat.ofNat d : Nat) < 2147483648) : nI a / (no_index (OfNat.ofNat d) : Int32) = nI (a / (OfNat.ofNat d : Nat)) := pk_div ha h0 hd
theorem y_reml {a d : Nat} (ha : a < 2147483648) (h0 : 0 < (OfNat.ofNat d : Nat)) (hd : (OfNat.ofNat d : Nat) < 2147483648) : nI a - nI (a / (OfNat.ofNat d : Nat)) * (no_index (OfNat.ofNat d) : Int32) = nI (a % (OfNat.ofNat d : Nat)) := by
  have := pk_rem ha h0 hd
  rw [pk_div ha h0 hd] at this
  exact this
-- two memories alike on some fields
def Sm (P : Nat → Bool) (M M' : XM) : Prop := (∀ f i c, P f = true → gI M' f i c = gI M f i c ∧ gL M' f i c = gL M f i c ∧ gD M' f i c = gD M f i c ∧ gR M' f i c = gR M f i c) ∧ (∀ k i, P (100 * (k + 1)) = true → gV M' k i = gV M k i)
theorem sm_I {P : Nat → Bool} {M M' : XM} (h : Sm P M M') {f : Nat} (hf : P f = true) (i c : Nat) : gI M' f i c = gI M f i c := (h.1 f i c hf).1
theorem sm_L {P : Nat → Bool} {M M' : XM} (h : Sm P M M') {f : Nat} (hf : P f = true) (i c : Nat) : gL M' f i c = gL M f i c := (h.1 f i c hf).2.1
theorem sm_D {P : Nat → Bool} {M M' : XM} (h : Sm P M M') {f : Nat} (hf : P f = true) (i c : Nat) : gD M' f i c = gD M f i c := (h.1 f i c hf).2.2.1
theorem sm_R {P : Nat → Bool} {M M' : XM} (h : Sm P M M') {f : Nat} (hf : P f = true) (i c : Nat) : gR M' f i c = gR M f i c := (h.1 f i c hf).2.2.2
theorem sm_V {P : Nat → Bool} {M M' : XM} (h : Sm P M M') {k : Nat} (hf : P (100 * (k + 1)) = true) (i : Nat) : gV M' k i = gV M k i := h.2 k i hf
theorem sm_refl (P : Nat → Bool) (M : XM) : Sm P M M := ⟨fun _ _ _ _ => ⟨rfl, rfl, rfl, rfl⟩, fun _ _ _ => rfl⟩
theorem sm_trans {P : Nat → Bool} {M M1 M2 : XM} (h : Sm P M M1) (h2 : Sm P M1 M2) : Sm P M M2 :=
  ⟨fun f i c q => ⟨(h2.1 f i c q).1.trans (h.1 f i c q).1, (h2.1 f i c q).2.1.trans (h.1 f i c q).2.1, (h2.1 f i c q).2.2.1.trans (h.1 f i c q).2.2.1, (h2.1 f i c q).2.2.2.trans (h.1 f i c q).2.2.2⟩, fun k i q => (h2.2 k i q).trans (h.2 k i q)⟩
theorem sm_sub {P Q : Nat → Bool} {M M' : XM} (h : Sm P M M') (hq : ∀ f, Q f = true → P f = true) : Sm Q M M' := ⟨fun f i c q => h.1 f i c (hq f q), fun k i q => h.2 k i (hq _ q)⟩
theorem sm_sI {P : Nat → Bool} {M M' : XM} {f i c : Nat} {v : Int32} (hf : P f = false) (h : Sm P M M') : Sm P M (sI M' f i c v) := by
  refine ⟨fun a b d q => ⟨?_, (h.1 a b d q).2⟩, h.2⟩
  rw [gI_sI, if_neg (fun z => by rw [z.1, hf] at q; cases q)]
  exact (h.1 a b d q).1
theorem sm_sL {P : Nat → Bool} {M M' : XM} {f i c : Nat} {v : Int64} (hf : P f = false) (h : Sm P M M') : Sm P M (sL M' f i c v) := by
  refine ⟨fun a b d q => ⟨(h.1 a b d q).1, ?_, (h.1 a b d q).2.2⟩, h.2⟩
  rw [gL_sL, if_neg (fun z => by rw [z.1, hf] at q; cases q)]
  exact (h.1 a b d q).2.1
theorem sm_sD {P : Nat → Bool} {M M' : XM} {f i c : Nat} {v : UInt64} (hf : P f = false) (h : Sm P M M') : Sm P M (sD M' f i c v) := by
  refine ⟨fun a b d q => ⟨(h.1 a b d q).1, (h.1 a b d q).2.1, ?_, (h.1 a b d q).2.2.2⟩, h.2⟩
  rw [gD_sD, if_neg (fun z => by rw [z.1, hf] at q; cases q)]
  exact (h.1 a b d q).2.2.1
theorem sm_sR {P : Nat → Bool} {M M' : XM} {f i c : Nat} {v : Option Nat} (hf : P f = false) (h : Sm P M M') : Sm P M (sR M' f i c v) := by
  refine ⟨fun a b d q => ⟨(h.1 a b d q).1, (h.1 a b d q).2.1, (h.1 a b d q).2.2.1, ?_⟩, h.2⟩
  rw [gR_sR, if_neg (fun z => by rw [z.1, hf] at q; cases q)]
  exact (h.1 a b d q).2.2.2
theorem sm_cL {P : Nat → Bool} {M M' : XM} {f i f2 i2 sp dp n : Nat} (hf : P f2 = false) (h : Sm P M M') : Sm P M (cL M' f i f2 i2 sp dp n) := by
  refine ⟨fun a b d q => ⟨(h.1 a b d q).1, ?_, (h.1 a b d q).2.2⟩, h.2⟩
  rw [gL_cL, if_neg (fun z => by rw [z.1, hf] at q; cases q)]
  exact (h.1 a b d q).2.1
theorem sm_cD {P : Nat → Bool} {M M' : XM} {f i f2 i2 sp dp n : Nat} (hf : P f2 = false) (h : Sm P M M') : Sm P M (cD M' f i f2 i2 sp dp n) := by
  refine ⟨fun a b d q => ⟨(h.1 a b d q).1, (h.1 a b d q).2.1, ?_, (h.1 a b d q).2.2.2⟩, h.2⟩
  rw [gD_cD, if_neg (fun z => by rw [z.1, hf] at q; cases q)]
  exact (h.1 a b d q).2.2.1
/-- no field of kind k's things is among them -/
def pno (P : Nat → Bool) (k : Nat) : Bool := (List.range 100).all (fun j => !P (100 * (k + 1) + j))
theorem pno_ok {P : Nat → Bool} {k : Nat} (h : pno P k = true) {a : Nat} (ha : a / 100 = k + 1) : P a = false := by
  have h1 := List.all_eq_true.mp h (a % 100) (List.mem_range.mpr (Nat.mod_lt _ (by decide)))
  have e : 100 * (k + 1) + a % 100 = a := by omega
  rw [e] at h1
  simpa using h1
theorem sm_nO {P : Nat → Bool} {M M' : XM} {k j : Nat} (hf : pno P k = true) (h : Sm P M M') : Sm P M (nO M' k j) := by
  refine ⟨fun a b d q => ?_, fun a b q => ?_⟩
  · have hn : ¬ (a / 100 = k + 1 ∧ b = j) := fun z => by rw [pno_ok hf z.1] at q; cases q
    rw [gI_nO, gL_nO, gD_nO, gR_nO, if_neg hn, if_neg hn, if_neg hn, if_neg hn]
    exact h.1 a b d q
  · rw [gV_nO, if_neg (fun z => by rw [pno_ok hf (a := 100 * (a + 1)) (by omega)] at q; cases q)]
    exact h.2 a b q
theorem y_10 : ((1 : Int32) = 0) = False := by decide
theorem y_mod (a d : Nat) : a - a / d * d = a % d := by
  have := Nat.div_add_mod a d
  rw [Nat.mul_comm] at this
  omega
