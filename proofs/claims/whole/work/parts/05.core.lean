/-! The memory of the claim, as numbers and functions; its picture in the heap. -/
abbrev XV : Type := Int32 ⊕ (Int64 ⊕ (UInt64 ⊕ (Nat × Option Nat)))
abbrev vI (x : Int32) : XV := .inl x
abbrev vL (x : Int64) : XV := .inr (.inl x)
abbrev vD (x : UInt64) : XV := .inr (.inr (.inl x))
abbrev vR (k : Nat) (o : Option Nat) : XV := .inr (.inr (.inr (k, o)))
def xv (r : Nat → Nat → Nat) (v : XV) : Value := match v with
  | .inl x => .int x
  | .inr (.inl x) => .long x
  | .inr (.inr (.inl x)) => .double x
  | .inr (.inr (.inr (k, o))) => va_rf (o.map (r k))
def xcat (v : XV) : Nat := match v with
  | .inl _ => 1
  | .inr (.inl _) => 2
  | .inr (.inr (.inl _)) => 2
  | .inr (.inr (.inr _)) => 1
theorem xcat_ok (r : Nat → Nat → Nat) (v : XV) : (xv r v).category = xcat v := by
  rcases v with x | x | x | ⟨k, _ | o⟩ <;> rfl
abbrev XM : Type := (Nat → Nat → Nat → Int32) × (Nat → Nat → Nat → Int64) × (Nat → Nat → Nat → UInt64) × (Nat → Nat → Nat → Option Nat) × (Nat → Nat → Bool)
def gI (M : XM) (f i c : Nat) : Int32 := M.1 f i c
def gL (M : XM) (f i c : Nat) : Int64 := M.2.1 f i c
def gD (M : XM) (f i c : Nat) : UInt64 := M.2.2.1 f i c
def gR (M : XM) (f i c : Nat) : Option Nat := M.2.2.2.1 f i c
def gV (M : XM) (k i : Nat) : Bool := M.2.2.2.2 k i
def sI (M : XM) (f i c : Nat) (v : Int32) : XM := (fun a b d => if a = f ∧ b = i ∧ d = c then v else M.1 a b d, M.2)
def sL (M : XM) (f i c : Nat) (v : Int64) : XM := (M.1, fun a b d => if a = f ∧ b = i ∧ d = c then v else M.2.1 a b d, M.2.2)
def sD (M : XM) (f i c : Nat) (v : UInt64) : XM := (M.1, M.2.1, fun a b d => if a = f ∧ b = i ∧ d = c then v else M.2.2.1 a b d, M.2.2.2)
def sR (M : XM) (f i c : Nat) (v : Option Nat) : XM := (M.1, M.2.1, M.2.2.1, fun a b d => if a = f ∧ b = i ∧ d = c then v else M.2.2.2.1 a b d, M.2.2.2.2)
/-- object or array number i of kind k is made: all that it holds is 0, false, null -/
def nO (M : XM) (k i : Nat) : XM := (fun a b d => if a / 100 = k + 1 ∧ b = i then 0 else M.1 a b d, fun a b d => if a / 100 = k + 1 ∧ b = i then 0 else M.2.1 a b d, fun a b d => if a / 100 = k + 1 ∧ b = i then 0 else M.2.2.1 a b d, fun a b d => if a / 100 = k + 1 ∧ b = i then none else M.2.2.2.1 a b d, fun a b => if a = k ∧ b = i then true else M.2.2.2.2 a b)
/-- n places of a row of longs, of doubles, copied -/
def cL (M : XM) (f i f2 i2 sp dp n : Nat) : XM := (M.1, fun a b d => if a = f2 ∧ b = i2 ∧ dp ≤ d ∧ d < dp + n then M.2.1 f i (sp + (d - dp)) else M.2.1 a b d, M.2.2)
def cD (M : XM) (f i f2 i2 sp dp n : Nat) : XM := (M.1, M.2.1, fun a b d => if a = f2 ∧ b = i2 ∧ dp ≤ d ∧ d < dp + n then M.2.2.1 f i (sp + (d - dp)) else M.2.2.1 a b d, M.2.2.2)
theorem gI_sI (M : XM) (f i c a b d : Nat) (v : Int32) : gI (sI M f i c v) a b d = if a = f ∧ b = i ∧ d = c then v else gI M a b d := rfl
theorem gI_sL (M : XM) (f i c a b d : Nat) (v : Int64) : gI (sL M f i c v) a b d = gI M a b d := rfl
theorem gI_sD (M : XM) (f i c a b d : Nat) (v : UInt64) : gI (sD M f i c v) a b d = gI M a b d := rfl
theorem gI_sR (M : XM) (f i c a b d : Nat) (v : Option Nat) : gI (sR M f i c v) a b d = gI M a b d := rfl
theorem gI_nO (M : XM) (k i a b d : Nat) : gI (nO M k i) a b d = if a / 100 = k + 1 ∧ b = i then 0 else gI M a b d := rfl
theorem gI_cL (M : XM) (f i f2 i2 sp dp n a b d : Nat) : gI (cL M f i f2 i2 sp dp n) a b d = gI M a b d := rfl
theorem gI_cD (M : XM) (f i f2 i2 sp dp n a b d : Nat) : gI (cD M f i f2 i2 sp dp n) a b d = gI M a b d := rfl
theorem gL_sI (M : XM) (f i c a b d : Nat) (v : Int32) : gL (sI M f i c v) a b d = gL M a b d := rfl
theorem gL_sL (M : XM) (f i c a b d : Nat) (v : Int64) : gL (sL M f i c v) a b d = if a = f ∧ b = i ∧ d = c then v else gL M a b d := rfl
theorem gL_sD (M : XM) (f i c a b d : Nat) (v : UInt64) : gL (sD M f i c v) a b d = gL M a b d := rfl
theorem gL_sR (M : XM) (f i c a b d : Nat) (v : Option Nat) : gL (sR M f i c v) a b d = gL M a b d := rfl
theorem gL_nO (M : XM) (k i a b d : Nat) : gL (nO M k i) a b d = if a / 100 = k + 1 ∧ b = i then 0 else gL M a b d := rfl
theorem gL_cL (M : XM) (f i f2 i2 sp dp n a b d : Nat) : gL (cL M f i f2 i2 sp dp n) a b d = if a = f2 ∧ b = i2 ∧ dp ≤ d ∧ d < dp + n then gL M f i (sp + (d - dp)) else gL M a b d := rfl
theorem gL_cD (M : XM) (f i f2 i2 sp dp n a b d : Nat) : gL (cD M f i f2 i2 sp dp n) a b d = gL M a b d := rfl
theorem gD_sI (M : XM) (f i c a b d : Nat) (v : Int32) : gD (sI M f i c v) a b d = gD M a b d := rfl
theorem gD_sL (M : XM) (f i c a b d : Nat) (v : Int64) : gD (sL M f i c v) a b d = gD M a b d := rfl
theorem gD_sD (M : XM) (f i c a b d : Nat) (v : UInt64) : gD (sD M f i c v) a b d = if a = f ∧ b = i ∧ d = c then v else gD M a b d := rfl
theorem gD_sR (M : XM) (f i c a b d : Nat) (v : Option Nat) : gD (sR M f i c v) a b d = gD M a b d := rfl
theorem gD_nO (M : XM) (k i a b d : Nat) : gD (nO M k i) a b d = if a / 100 = k + 1 ∧ b = i then 0 else gD M a b d := rfl
theorem gD_cL (M : XM) (f i f2 i2 sp dp n a b d : Nat) : gD (cL M f i f2 i2 sp dp n) a b d = gD M a b d := rfl
theorem gD_cD (M : XM) (f i f2 i2 sp dp n a b d : Nat) : gD (cD M f i f2 i2 sp dp n) a b d = if a = f2 ∧ b = i2 ∧ dp ≤ d ∧ d < dp + n then gD M f i (sp + (d - dp)) else gD M a b d := rfl
theorem gR_sI (M : XM) (f i c a b d : Nat) (v : Int32) : gR (sI M f i c v) a b d = gR M a b d := rfl
theorem gR_sL (M : XM) (f i c a b d : Nat) (v : Int64) : gR (sL M f i c v) a b d = gR M a b d := rfl
theorem gR_sD (M : XM) (f i c a b d : Nat) (v : UInt64) : gR (sD M f i c v) a b d = gR M a b d := rfl
theorem gR_sR (M : XM) (f i c a b d : Nat) (v : Option Nat) : gR (sR M f i c v) a b d = if a = f ∧ b = i ∧ d = c then v else gR M a b d := rfl
theorem gR_nO (M : XM) (k i a b d : Nat) : gR (nO M k i) a b d = if a / 100 = k + 1 ∧ b = i then none else gR M a b d := rfl
theorem gR_cL (M : XM) (f i f2 i2 sp dp n a b d : Nat) : gR (cL M f i f2 i2 sp dp n) a b d = gR M a b d := rfl
theorem gR_cD (M : XM) (f i f2 i2 sp dp n a b d : Nat) : gR (cD M f i f2 i2 sp dp n) a b d = gR M a b d := rfl
theorem gV_sI (M : XM) (f i c a b : Nat) (v : Int32) : gV (sI M f i c v) a b = gV M a b := rfl
theorem gV_sL (M : XM) (f i c a b : Nat) (v : Int64) : gV (sL M f i c v) a b = gV M a b := rfl
theorem gV_sD (M : XM) (f i c a b : Nat) (v : UInt64) : gV (sD M f i c v) a b = gV M a b := rfl
theorem gV_sR (M : XM) (f i c a b : Nat) (v : Option Nat) : gV (sR M f i c v) a b = gV M a b := rfl
theorem gV_nO (M : XM) (k i a b : Nat) : gV (nO M k i) a b = if a = k ∧ b = i then true else gV M a b := rfl
theorem gV_cL (M : XM) (f i f2 i2 sp dp n a b : Nat) : gV (cL M f i f2 i2 sp dp n) a b = gV M a b := rfl
theorem gV_cD (M : XM) (f i f2 i2 sp dp n a b : Nat) : gV (cD M f i f2 i2 sp dp n) a b = gV M a b := rfl
/-- the fields of each kind of object: 0 int, 1 long, 2 boolean, 3 reference; the kind that it refers to -/
def xFd : Nat → List (Nat × Nat) := fun k => match k with
  | 0 => [(0, 0), (0, 0), (2, 0), (2, 0), (0, 0), (3, 10), (0, 0), (3, 11), (3, 12), (3, 13), (3, 14), (2, 0)]
  | 1 => [(0, 0), (0, 0), (3, 5), (0, 0)]
  | 2 => [(2, 0), (3, 1), (3, 4), (3, 4), (0, 0), (0, 0), (0, 0), (3, 7)]
  | 3 => [(3, 15), (3, 16), (0, 0), (0, 0), (0, 0), (0, 0)]
  | 4 => [(3, 5), (0, 0), (3, 0), (0, 0), (3, 17), (3, 4), (0, 0), (2, 0), (2, 0)]
  | 5 => [(0, 0), (3, 5), (3, 18), (0, 0), (0, 0)]
  | 6 => [(3, 3), (3, 19), (0, 0), (3, 7), (3, 7), (3, 20), (0, 0), (0, 0), (0, 0), (0, 0), (0, 0), (1, 0), (1, 0)]
  | 7 => [(3, 21), (3, 22)]
  | 8 => [(3, 3), (3, 6)]
  | 9 => [(0, 0), (0, 0), (3, 23), (3, 24), (3, 25), (3, 26), (3, 27), (3, 28), (3, 29), (3, 30), (3, 31), (3, 32), (3, 33), (0, 0), (3, 34), (3, 35), (3, 36), (3, 37), (3, 38), (3, 39), (3, 40), (0, 0), (3, 41), (3, 42), (0, 0), (0, 0), (3, 43), (3, 44), (0, 0), (3, 45), (3, 46), (3, 47), (3, 48), (0, 0), (3, 49), (3, 50), (3, 51), (3, 52), (3, 53), (3, 54), (3, 55), (3, 56), (3, 57), (3, 58), (0, 0), (0, 0), (0, 0), (0, 0), (0, 0), (1, 0), (3, 59), (1, 0)]
  | _ => []
/-- the arrays from kind 10 on: 0 int, 1 long, 2 double, 3 boolean, 4 reference; length; the kind referred to; the place of its class -/
def xAl : List (Nat × Nat × Nat × Nat) := [(0, 2, 0, 0), (0, 3, 0, 0), (0, 15, 0, 0), (0, 15, 0, 0), (0, 15, 0, 0), (4, 24, 0, 4), (4, 8, 5, 8), (1, 4, 0, 1), (4, 30, 4, 7), (4, 10, 1, 5), (4, 104, 2, 6), (1, 40, 0, 1), (2, 40, 0, 2), (0, 24, 0, 0), (0, 24, 0, 0), (3, 24, 0, 3), (3, 24, 0, 3), (0, 24, 0, 0), (0, 24, 0, 0), (0, 48, 0, 0), (0, 72, 0, 0), (0, 360, 0, 0), (0, 360, 0, 0), (0, 360, 0, 0), (0, 8, 0, 0), (0, 240, 0, 0), (3, 240, 0, 3), (3, 240, 0, 3), (0, 240, 0, 0), (0, 480, 0, 0), (0, 240, 0, 0), (0, 2600, 0, 0), (0, 2600, 0, 0), (0, 240, 0, 0), (3, 240, 0, 3), (0, 10, 0, 0), (0, 10, 0, 0), (0, 10, 0, 0), (1, 40, 0, 1), (0, 2100, 0, 0), (0, 2100, 0, 0), (3, 2100, 0, 3), (0, 2100, 0, 0), (0, 2100, 0, 0), (0, 2100, 0, 0), (3, 2100, 0, 3), (3, 2100, 0, 3), (1, 2100, 0, 1), (1, 84000, 0, 1), (1, 40, 0, 1), (1, 1, 0, 1)]
def xAk (k : Nat) : Nat × Nat × Nat × Nat := xAl.getD (k - 10) (0, 0, 0, 0)
def xLen (k : Nat) : Nat := (xAk k).2.1
/-- the kind that a field, or an array's place, refers to -/
def xTk (f : Nat) : Nat := if f / 100 - 1 < 10 then ((xFd (f / 100 - 1)).getD (f % 100) (0, 0)).2 else (xAk (f / 100 - 1)).2.2.1
abbrev DX : Type := va_G × (Nat → ClassId)
def xfv (r : Nat → Nat → Nat) (M : XM) (f i : Nat) (d : Nat × Nat) : Value := if d.1 = 1 then .long (gL M f i 0) else if d.1 = 3 then va_rf ((gR M f i 0).map (r d.2)) else .int (gI M f i 0)
def xFl (r : Nat → Nat → Nat) (M : XM) (k i : Nat) : List Value := (xFd k).zipIdx.map (fun q => xfv r M (100 * (k + 1) + q.2) i q.1)
def xCt (r : Nat → Nat → Nat) (M : XM) (k i : Nat) : (Nat → Int32) ⊕ (Nat → Int64) ⊕ (Nat → UInt32) ⊕ (Nat → UInt64) ⊕ (Nat → Option Nat) :=
  if (xAk k).1 = 1 then .inr (.inl (fun c => gL M (100 * (k + 1)) i c)) else if (xAk k).1 = 2 then .inr (.inr (.inr (.inl (fun c => gD M (100 * (k + 1)) i c)))) else if (xAk k).1 = 4 then .inr (.inr (.inr (.inr (fun c => (gR M (100 * (k + 1)) i c).map (r (xAk k).2.2.1))))) else .inl (fun c => gI M (100 * (k + 1)) i c)
def xE (D : DX) (r : Nat → Nat → Nat) (M : XM) (k i : Nat) : va_E := if k < 10 then .inr (k, xFl r M k i) else .inl (D.2 (xAk k).2.2.2, xLen k, xCt r M k i)
def xW (D : DX) (r : Nat → Nat → Nat) (M : XM) (ks : List (Nat × Nat)) : va_W := ks.map (fun q => (r q.1 q.2, xE D r M q.1 q.2))
def xP (D : DX) (b0 : Nat) (r : Nat → Nat → Nat) (M : XM) (H : Heap) : Prop := ∃ ks : List (Nat × Nat), (∀ k i, (gV M k i = true ∧ ¬ k = 99) ↔ (k, i) ∈ ks) ∧ va_P D.1 vwCl (xW D r M ks) H ∧ va_D (fun q => b0 ≤ q) (xW D r M ks)
/-- every reference that the memory holds is of a thing that was made -/
def xwf (M : XM) : Prop := ∀ f i c j, gR M f i c = some j → gV M (xTk f) j = true
def xlive (M : XM) (v : XV) : Prop := match v with
  | .inr (.inr (.inr (k, some j))) => gV M k j = true
  | _ => True
theorem xlive_I (M : XM) (x : Int32) : xlive M (vI x) := trivial
theorem xlive_L (M : XM) (x : Int64) : xlive M (vL x) := trivial
theorem xlive_D (M : XM) (x : UInt64) : xlive M (vD x) := trivial
theorem xlive_R {M : XM} {k : Nat} {o : Option Nat} (h : ∀ j, o = some j → gV M k j = true) : xlive M (vR k o) := by
  cases o with
  | none => trivial
  | some j => exact h j rfl
theorem xlive_R' {M : XM} {k : Nat} {o : Option Nat} (h : xlive M (vR k o)) : ∀ j, o = some j → gV M k j = true := by
  intro j hj
  subst hj
  exact h
theorem xlive_mono {M M' : XM} (hm : ∀ k i, gV M k i = true → gV M' k i = true) {v : XV} (h : xlive M v) : xlive M' v := by
  rcases v with x | x | x | ⟨k, _ | j⟩
  · trivial
  · trivial
  · trivial
  · trivial
  · exact hm k j h
theorem xv_kept {M : XM} {r r' : Nat → Nat → Nat} (hr : ∀ k i, gV M k i = true → r' k i = r k i) {v : XV} (h : xlive M v) : xv r' v = xv r v := by
  rcases v with x | x | x | ⟨k, _ | j⟩
  · rfl
  · rfl
  · rfl
  · rfl
  · show va_rf (some (r' k j)) = va_rf (some (r k j))
    rw [hr k j h]
/-- but for the thing i of kind k nothing has changed -/
def xOth (M M' : XM) (k i : Nat) : Prop := ∀ f b c, ¬ (f / 100 = k + 1 ∧ b = i) → gI M' f b c = gI M f b c ∧ gL M' f b c = gL M f b c ∧ gD M' f b c = gD M f b c ∧ gR M' f b c = gR M f b c
theorem xFd_len (k : Nat) : (xFd k).length ≤ 60 := by
  by_cases h : k < 10
  · exact (show ∀ k, k < 10 → (xFd k).length ≤ 60 by decide) k h
  · match k, h with
    | k + 10, _ => exact Nat.zero_le _
    | 0, h | 1, h | 2, h | 3, h | 4, h | 5, h | 6, h | 7, h | 8, h | 9, h => exact absurd (by decide) h
theorem xFl_at (r : Nat → Nat → Nat) (M : XM) (k i j : Nat) : (xFl r M k i)[j]? = ((xFd k)[j]?).map (fun d => xfv r M (100 * (k + 1) + j) i d) := by
  simp only [xFl, List.getElem?_map, List.getElem?_zipIdx, Option.map_map]
  cases (xFd k)[j]? with
  | none => rfl
  | some d => simp
theorem xFl_len (r : Nat → Nat → Nat) (M : XM) (k i : Nat) : (xFl r M k i).length = (xFd k).length := by simp [xFl]
theorem xE_oth {D : DX} {r : Nat → Nat → Nat} {M M' : XM} {k i k' i' : Nat} (h : xOth M M' k i) (hne : ¬ (k' = k ∧ i' = i)) : xE D r M' k' i' = xE D r M k' i' := by
  unfold xE
  by_cases hk : k' < 10
  · rw [if_pos hk, if_pos hk]
    have e : xFl r M' k' i' = xFl r M k' i' := by
      apply List.ext_getElem?
      intro j
      rw [xFl_at, xFl_at]
      cases hd : (xFd k')[j]? with
      | none => rfl
      | some d =>
        have hj : j < 60 := Nat.lt_of_lt_of_le (List.getElem?_eq_some_iff.mp hd).1 (xFd_len k')
        obtain ⟨h1, h2, h3, h4⟩ := h (100 * (k' + 1) + j) i' 0 (fun q => hne ⟨by omega, q.2⟩)
        simp only [Option.map_some, xfv, h1, h2, h4]
    rw [e]
  · rw [if_neg hk, if_neg hk]
    have q : ¬ (100 * (k' + 1) / 100 = k + 1 ∧ i' = i) := fun q => hne ⟨by omega, q.2⟩
    have e : xCt r M' k' i' = xCt r M k' i' := by
      unfold xCt
      simp only [fun c => (h (100 * (k' + 1)) i' c q).1, fun c => (h (100 * (k' + 1)) i' c q).2.1, fun c => (h (100 * (k' + 1)) i' c q).2.2.1, fun c => (h (100 * (k' + 1)) i' c q).2.2.2]
    rw [e]
theorem xE_kept {D : DX} {r r' : Nat → Nat → Nat} {M : XM} (hw : xwf M) (hr : ∀ k i, gV M k i = true → r' k i = r k i) (k i : Nat) : xE D r' M k i = xE D r M k i := by
  unfold xE
  by_cases hk : k < 10
  · rw [if_pos hk, if_pos hk]
    have e : xFl r' M k i = xFl r M k i := by
      apply List.ext_getElem?
      intro j
      rw [xFl_at, xFl_at]
      cases hd : (xFd k)[j]? with
      | none => rfl
      | some d =>
        have hj : j < 60 := Nat.lt_of_lt_of_le (List.getElem?_eq_some_iff.mp hd).1 (xFd_len k)
        simp only [Option.map_some, xfv]
        cases hg : gR M (100 * (k + 1) + j) i 0 with
        | none => rfl
        | some z =>
          have hz := hw _ _ _ _ hg
          have e1 : xTk (100 * (k + 1) + j) = d.2 := by
            unfold xTk
            have h1 : (100 * (k + 1) + j) / 100 - 1 = k := by omega
            have h2 : (100 * (k + 1) + j) % 100 = j := by omega
            rw [h1, h2, if_pos hk, List.getD_eq_getElem?_getD, hd]
            rfl
          rw [e1] at hz
          simp only [Option.map_some, hr _ _ hz]
    rw [e]
  · rw [if_neg hk, if_neg hk]
    have e : xCt r' M k i = xCt r M k i := by
      unfold xCt
      have e3 : (fun c => (gR M (100 * (k + 1)) i c).map (r' (xAk k).2.2.1)) = (fun c => (gR M (100 * (k + 1)) i c).map (r (xAk k).2.2.1)) := by
        funext c
        cases hg : gR M (100 * (k + 1)) i c with
        | none => rfl
        | some z =>
          have hz := hw _ _ _ _ hg
          have e1 : xTk (100 * (k + 1)) = (xAk k).2.2.1 := by
            unfold xTk
            have h1 : (100 * (k + 1)) / 100 - 1 = k := by omega
            rw [h1, if_neg hk]
          rw [e1] at hz
          simp only [Option.map_some, hr _ _ hz]
      rw [e3]
    rw [e]
theorem xW_at {D : DX} {r : Nat → Nat → Nat} {M : XM} {ks : List (Nat × Nat)} {k i : Nat} (h : (k, i) ∈ ks) : ∃ n : Nat, ks[n]? = some (k, i) ∧ (xW D r M ks)[n]? = some (r k i, xE D r M k i) := by
  obtain ⟨n, hn⟩ := List.getElem?_of_mem h
  exact ⟨n, hn, by simp [xW, hn]⟩
theorem xks_nodup {D : DX} {r : Nat → Nat → Nat} {M : XM} {ks : List (Nat × Nat)} {A : Nat → Prop} (hD : va_D A (xW D r M ks)) {m n : Nat} {q : Nat × Nat} (hm : ks[m]? = some q) (hn : ks[n]? = some q) : m = n :=
  hD.1 m n (r q.1 q.2, xE D r M q.1 q.2) (r q.1 q.2, xE D r M q.1 q.2) (by simp [xW, hm]) (by simp [xW, hn]) rfl
theorem xW_set {D : DX} {r : Nat → Nat → Nat} {M M' : XM} {ks : List (Nat × Nat)} {A : Nat → Prop} (hD : va_D A (xW D r M ks)) {k i n : Nat} (hn : ks[n]? = some (k, i)) (ho : xOth M M' k i) {e : va_E} (he : e = xE D r M' k i) : (xW D r M ks).set n (r k i, e) = xW D r M' ks := by
  subst he
  apply List.ext_getElem?
  intro m
  rw [List.getElem?_set]
  by_cases hmn : n = m
  · subst hmn
    obtain ⟨hl, hg⟩ := List.getElem?_eq_some_iff.mp hn
    simp [xW, hg, hl]
  · rw [if_neg hmn]
    simp only [xW, List.getElem?_map]
    cases hm : ks[m]? with
    | none => rfl
    | some q =>
      have hq : ¬ (q.1 = k ∧ q.2 = i) := fun z => hmn (xks_nodup hD (by rw [hn]) (show ks[m]? = some (k, i) by rw [hm, ← z.1, ← z.2]))
      simp only [Option.map_some]
      rw [xE_oth ho hq]
/-- a thing's cell is rewritten -/
theorem xP_set {D : DX} {b0 : Nat} {r : Nat → Nat → Nat} {M M' : XM} {ks : List (Nat × Nat)} {H1 : Heap} {k i n : Nat} (hk : ∀ k i, (gV M k i = true ∧ ¬ k = 99) ↔ (k, i) ∈ ks) (hD : va_D (fun q => b0 ≤ q) (xW D r M ks)) (hn : ks[n]? = some (k, i)) (ho : xOth M M' k i) (hv : ∀ a b, gV M' a b = gV M a b) {e : va_E} (he : e = xE D r M' k i)
    (hP1 : va_P D.1 vwCl ((xW D r M ks).set n (r k i, e)) H1) (hD1 : va_D (fun q => b0 ≤ q) ((xW D r M ks).set n (r k i, e))) : xP D b0 r M' H1 := by
  rw [xW_set hD hn ho he] at hP1 hD1
  exact ⟨ks, fun a b => by rw [hv]; exact hk a b, hP1, hD1⟩
/-- a new thing -/
theorem xP_new {D : DX} {b0 : Nat} {r : Nat → Nat → Nat} {M : XM} {ks : List (Nat × Nat)} {H1 : Heap} {k i a : Nat} (hw : xwf M) (hk : ∀ k i, (gV M k i = true ∧ ¬ k = 99) ↔ (k, i) ∈ ks) (hf : gV M k i = false) (h99 : ¬ k = 99) {e : va_E} (he : ∀ r', e = xE D r' (nO M k i) k i)
    (hP1 : va_P D.1 vwCl (xW D r M ks ++ [(a, e)]) H1) (hD1 : va_D (fun q => b0 ≤ q) (xW D r M ks ++ [(a, e)])) : ∃ r' : Nat → Nat → Nat, r' k i = a ∧ (∀ c d, gV M c d = true → r' c d = r c d) ∧ xP D b0 r' (nO M k i) H1 := by
  refine ⟨fun c d => if c = k ∧ d = i then a else r c d, by simp, ?_, ?_⟩
  · intro c d hcd
    show (if c = k ∧ d = i then a else r c d) = r c d
    rw [if_neg]
    rintro ⟨rfl, rfl⟩
    rw [hf] at hcd
    cases hcd
  · generalize hr' : (fun c d => if c = k ∧ d = i then a else r c d : Nat → Nat → Nat) = r'
    have hrk : r' k i = a := by rw [← hr']; simp
    have hro : ∀ c d, gV M c d = true → r' c d = r c d := by
      intro c d hcd
      rw [← hr']
      show (if c = k ∧ d = i then a else r c d) = r c d
      rw [if_neg]
      rintro ⟨rfl, rfl⟩
      rw [hf] at hcd
      cases hcd
    have ho : xOth M (nO M k i) k i := by
      intro f b c hn
      refine ⟨?_, ?_, ?_, ?_⟩
      · rw [gI_nO, if_neg hn]
      · rw [gL_nO, if_neg hn]
      · rw [gD_nO, if_neg hn]
      · rw [gR_nO, if_neg hn]
    have e1 : xW D r M ks ++ [(a, e)] = xW D r' (nO M k i) (ks ++ [(k, i)]) := by
      unfold xW
      rw [List.map_append]
      congr 1
      · apply List.map_congr_left
        intro q hq
        have hlq := ((hk q.1 q.2).mpr hq).1
        have hne : ¬ (q.1 = k ∧ q.2 = i) := by
          rintro ⟨h1, h2⟩
          rw [h1, h2, hf] at hlq
          cases hlq
        rw [hro q.1 q.2 hlq, xE_oth ho hne, xE_kept hw hro]
      · simp only [List.map_cons, List.map_nil]
        rw [hrk, he r']
    rw [e1] at hP1 hD1
    refine ⟨ks ++ [(k, i)], ?_, hP1, hD1⟩
    intro c d
    rw [gV_nO]
    by_cases hcd : c = k ∧ d = i
    · rw [if_pos hcd, hcd.1, hcd.2]
      simp [h99]
    · rw [if_neg hcd, hk c d]
      simp only [List.mem_append, List.mem_singleton, Prod.mk.injEq]
      exact ⟨Or.inl, fun h => h.elim id (fun h => absurd h hcd)⟩
theorem xwf_same {M M' : XM} (h : xwf M) (hv : ∀ a b, gV M' a b = gV M a b) (hr : ∀ a b c, gR M' a b c = gR M a b c) : xwf M' := by
  intro f i c j hg
  rw [hv]
  rw [hr] at hg
  exact h f i c j hg
theorem xwf_sR {M : XM} (h : xwf M) {f i c : Nat} {v : Option Nat} (hv : ∀ j, v = some j → gV M (xTk f) j = true) : xwf (sR M f i c v) := by
  intro a b d j hg
  rw [gV_sR]
  rw [gR_sR] at hg
  by_cases q : a = f ∧ b = i ∧ d = c
  · rw [if_pos q] at hg
    rw [q.1]
    exact hv j hg
  · rw [if_neg q] at hg
    exact h a b d j hg
theorem xwf_nO {M : XM} (h : xwf M) (k i : Nat) : xwf (nO M k i) := by
  intro a b d j hg
  rw [gR_nO] at hg
  rw [gV_nO]
  by_cases q : a / 100 = k + 1 ∧ b = i
  · rw [if_pos q] at hg
    cases hg
  · rw [if_neg q] at hg
    have h1 := h a b d j hg
    by_cases q2 : xTk a = k ∧ j = i
    · rw [if_pos q2]
    · rw [if_neg q2]
      exact h1
theorem gV_nO_mono (M : XM) (k i : Nat) : ∀ c d, gV M c d = true → gV (nO M k i) c d = true := by
  intro c d h
  rw [gV_nO]
  by_cases q : c = k ∧ d = i
  · rw [if_pos q]
  · rw [if_neg q]
    exact h
theorem xOth_sI (M : XM) {f k : Nat} (i c : Nat) (v : Int32) (hf : f / 100 = k + 1) : xOth M (sI M f i c v) k i := fun a b d h => ⟨by rw [gI_sI, if_neg (fun q => h ⟨by rw [q.1]; exact hf, q.2.1⟩)], rfl, rfl, rfl⟩
theorem xOth_sL (M : XM) {f k : Nat} (i c : Nat) (v : Int64) (hf : f / 100 = k + 1) : xOth M (sL M f i c v) k i := fun a b d h => ⟨rfl, by rw [gL_sL, if_neg (fun q => h ⟨by rw [q.1]; exact hf, q.2.1⟩)], rfl, rfl⟩
theorem xOth_sD (M : XM) {f k : Nat} (i c : Nat) (v : UInt64) (hf : f / 100 = k + 1) : xOth M (sD M f i c v) k i := fun a b d h => ⟨rfl, rfl, by rw [gD_sD, if_neg (fun q => h ⟨by rw [q.1]; exact hf, q.2.1⟩)], rfl⟩
theorem xOth_sR (M : XM) {f k : Nat} (i c : Nat) (v : Option Nat) (hf : f / 100 = k + 1) : xOth M (sR M f i c v) k i := fun a b d h => ⟨rfl, rfl, rfl, by rw [gR_sR, if_neg (fun q => h ⟨by rw [q.1]; exact hf, q.2.1⟩)]⟩
theorem xOth_cL (M : XM) {f2 k : Nat} (f i i2 sp dp n : Nat) (hf : f2 / 100 = k + 1) : xOth M (cL M f i f2 i2 sp dp n) k i2 := fun a b d h => ⟨rfl, by rw [gL_cL, if_neg (fun q => h ⟨by rw [q.1]; exact hf, q.2.1⟩)], rfl, rfl⟩
theorem xOth_cD (M : XM) {f2 k : Nat} (f i i2 sp dp n : Nat) (hf : f2 / 100 = k + 1) : xOth M (cD M f i f2 i2 sp dp n) k i2 := fun a b d h => ⟨rfl, rfl, by rw [gD_cD, if_neg (fun q => h ⟨by rw [q.1]; exact hf, q.2.1⟩)], rfl⟩
/-- a field's own list, rewritten at one place -/
theorem xFl_set {r : Nat → Nat → Nat} {M M' : XM} {k i j : Nat} {d : Nat × Nat} {v : Value} (hd : (xFd k)[j]? = some d) (hv : v = xfv r M' (100 * (k + 1) + j) i d) (ho : ∀ p, p < 60 → p ≠ j → gI M' (100 * (k + 1) + p) i 0 = gI M (100 * (k + 1) + p) i 0 ∧ gL M' (100 * (k + 1) + p) i 0 = gL M (100 * (k + 1) + p) i 0 ∧ gR M' (100 * (k + 1) + p) i 0 = gR M (100 * (k + 1) + p) i 0) : (xFl r M k i).set j v = xFl r M' k i := by
  subst hv
  apply List.ext_getElem?
  intro p
  rw [List.getElem?_set, xFl_at, xFl_at]
  by_cases hp : j = p
  · subst hp
    have hl : j < (xFl r M k i).length := by rw [xFl_len]; exact (List.getElem?_eq_some_iff.mp hd).1
    rw [if_pos rfl, if_pos hl, hd]
    rfl
  · rw [if_neg hp]
    cases hq : (xFd k)[p]? with
    | none => rfl
    | some d2 =>
      have h60 : p < 60 := Nat.lt_of_lt_of_le (List.getElem?_eq_some_iff.mp hq).1 (xFd_len k)
      obtain ⟨h1, h2, h3⟩ := ho p h60 (fun q => hp q.symm)
      simp only [Option.map_some, xfv, h1, h2, h3]
