/-! PURE: what finding and making do to the state. -/
def II (σ : SS) : Prop := IF σ ∧ IL σ ∧ IT σ
def tof (σ : SS) : Nat → Nat → Nat → Option Nat → Option Nat
  | 0, _, _, a => a
  | k + 1, l, n, a => if z_the σ (30 * l + n) = true then some (30 * l + n) else (match z_par σ l with
    | none => if (z_off σ (30 * l + n)).isSome = true then some (30 * l + n) else a
    | some p => tof σ k p n (if (z_off σ (30 * l + n)).isSome = true then some (30 * l + n) else a))
def mkfail (σ : SS) (c f : Nat) : Nat := if ¬ c / 30 = 0 ∧ c % 30 < 5 then 4 else if ¬ z_inn σ f = c % 30 then 2 else if z_mk σ c = true then 5 else 0
def w_start (σ : SS) (c : Nat) : SS := w_mk (w_sp (w_abv (w_bt σ (fun a d => if a = c then d == c else z_bt σ a d)) (fun a => if a = c then 0 else z_abv σ a)) (fun a => if a = c then none else z_sp σ a)) (fun a => if a = c then true else z_mk σ a)
def w_stop (σ : SS) (c : Nat) : SS := w_mk σ (fun a => if a = c then false else z_mk σ a)
def w_done (σ : SS) (c : Nat) : SS := w_the (w_mk (w_rk (w_mad σ (z_mad σ + 1)) (fun a => if a = c then z_mad σ else z_rk σ a)) (fun a => if a = c then false else z_mk σ a)) (fun a => if a = c then true else z_the σ a)
def w_sup1 (σ : SS) (c u : Nat) : SS := w_sp (w_abv (w_bt σ (fun a d => if a = c then z_bt σ c d || z_bt σ u d else z_bt σ a d)) (fun a => if a = c then z_abv σ u + 1 else z_abv σ a)) (fun a => if a = c then some u else z_sp σ a)
def w_face (σ : SS) (c j u : Nat) : SS := w_fc (w_bt σ (fun a d => if a = c then z_bt σ c d || z_bt σ u d else z_bt σ a d)) (fun a i => if a = c ∧ i = j then u else z_fc σ a i)
def filO (σ : SS) (c : Nat) : Nat := (z_off σ c).getD 0
def putF (σ : SS) (s : Bool) (u : Nat) : Nat := if z_fac σ (filO σ u) = s then 6 else if s = true ∧ z_las σ (filO σ u) = true then 7 else if s = true ∧ 12 ≤ z_abv σ u then 17 else 0
def w_put (σ : SS) (c : Nat) (s : Bool) (j u : Nat) : SS := if s = true then w_sup1 σ c u else w_face σ c j u
abbrev FND : Type := SS → Nat → Nat → Option (SS × (Nat ⊕ Nat))
def doPart (fnd : FND) (c : Nat) (s : Bool) (j n : Nat) (σ : SS) : Option (SS × Nat) := match fnd σ (c / 30) n with
  | none => none
  | some (σ1, .inr r) => some (σ1, if r = 1 then 2 else r)
  | some (σ1, .inl u) => if putF σ1 s u = 0 then some (w_put σ1 c s j u, 0) else some (σ1, putF σ1 s u)
def doSup (fnd : FND) (c f : Nat) (σ : SS) : Option (SS × Nat) := match z_sup σ f with
  | none => some (σ, 0)
  | some n => doPart fnd c true 0 n σ
def doFaces (fnd : FND) (c f : Nat) : Nat → Nat → SS → Option (SS × Nat)
  | 0, _, σ => some (σ, 0)
  | k + 1, j, σ => match doPart fnd c false j (z_fnm σ f j) σ with
    | none => none
    | some (σ1, r) => if r = 0 then doFaces fnd c f k (j + 1) σ1 else some (σ1, r)
def doParts (fnd : FND) (c f : Nat) (σ : SS) : Option (SS × Nat) := match doSup fnd c f σ with
  | none => none
  | some (σ1, r) => if r = 0 then doFaces fnd c f (z_fcn σ f) 0 σ1 else some (σ1, r)
def mkF (fnd : FND) (c : Nat) (σ : SS) : Option (SS × (Nat ⊕ Nat)) :=
  if ¬ mkfail σ c (filO σ c) = 0 then some (σ, .inr (mkfail σ c (filO σ c))) else (match doParts fnd c (filO σ c) (w_start σ c) with
  | none => none
  | some (σ1, r) => if r = 0 then some (w_done σ1 c, .inl c) else some (w_stop σ1 c, .inr r))
def fd : Nat → FND
  | 0, _, _, _ => none
  | k + 1, σ, l, n => match tof σ 8 l n none with
    | none => some (σ, .inr 1)
    | some c => if z_the σ c = true then some (σ, .inl c) else mkF (fd k) c σ
-- loaders above
theorem lbe_fuel {σ : SS} (hI : IL σ) (k : Nat) : ∀ n m l, l < n → l < m → lbe σ n l k = lbe σ m l k := by
  intro n
  induction n with
  | zero => intro m l h; omega
  | succ n ih =>
    intro m l h1 h2
    obtain ⟨m, rfl⟩ : ∃ q, m = q + 1 := ⟨m - 1, by omega⟩
    simp only [lbe]
    cases e : z_par σ l with
    | none => rfl
    | some p =>
      have := par_lt hI e
      simp only [ih m p (by omega) (by omega)]
theorem lbe_self (σ : SS) (l : Nat) : lbe σ 9 l l = true := by simp [lbe]
theorem lbe_par {σ : SS} (hI : IL σ) {l p : Nat} (h : z_par σ l = some p) (k : Nat) : lbe σ 9 l k = (l == k || lbe σ 9 p k) := by
  have h1 := par_lt hI h
  have h2 := hI.2.1
  rw [show (9 : Nat) = 8 + 1 from rfl, lbe, h]
  show (l == k || lbe σ 8 p k) = _
  rw [lbe_fuel hI k 8 9 p (by omega) (by omega)]
theorem lbe_root {σ : SS} {l : Nat} (h : z_par σ l = none) (k : Nat) : lbe σ 9 l k = (l == k) := by
  rw [show (9 : Nat) = 8 + 1 from rfl, lbe, h]
  simp
theorem lbe_trans {σ : SS} (hI : IL σ) {k m : Nat} (h2 : lbe σ 9 k m = true) : ∀ l, lbe σ 9 l k = true → lbe σ 9 l m = true := by
  intro l
  induction l using Nat.strongRecOn with
  | ind l ih =>
    intro h1
    cases e : z_par σ l with
    | none =>
      rw [lbe_root e] at h1
      rw [beq_iff_eq.mp h1]
      exact h2
    | some p =>
      rw [lbe_par hI e] at h1
      by_cases hk : l = k
      · rw [hk]
        exact h2
      · have h3 : lbe σ 9 p k = true := by simpa [hk] using h1
        rw [lbe_par hI e, ih p (par_lt hI e).1 h3]
        simp
theorem lbe_le {σ : SS} (hI : IL σ) {k : Nat} : ∀ l, lbe σ 9 l k = true → k ≤ l := by
  intro l
  induction l using Nat.strongRecOn with
  | ind l ih =>
    intro h1
    cases e : z_par σ l with
    | none =>
      rw [lbe_root e] at h1
      rw [beq_iff_eq.mp h1]
      exact Nat.le_refl _
    | some p =>
      rw [lbe_par hI e] at h1
      have hp := (par_lt hI e).1
      by_cases hk : l = k
      · omega
      · have h3 : lbe σ 9 p k = true := by simpa [hk] using h1
        have := ih p hp h3
        omega
theorem tof_ok {σ : SS} (hI : IL σ) {n : Nat} (hn : n < 30) {c : Nat} : ∀ k l a, tof σ k l n a = some c → a = some c ∨ (c % 30 = n ∧ lbe σ 9 l (c / 30) = true ∧ ∃ f, z_off σ c = some f) := by
  have e1 : ∀ l, (30 * l + n) / 30 = l := fun l => by omega
  have e2 : ∀ l, (30 * l + n) % 30 = n := fun l => by omega
  intro k
  induction k with
  | zero => intro l a h; exact .inl h
  | succ k ih =>
    intro l a h
    rw [tof] at h
    split at h
    · rename_i ht
      cases h
      exact .inr ⟨e2 l, by rw [e1]; exact lbe_self σ l, hI.2.2.2.2.2.2.2.1 _ ht⟩
    · have own : ∀ b, (if (z_off σ (30 * l + n)).isSome = true then some (30 * l + n) else a) = b → b = some c → a = some c ∨ (c % 30 = n ∧ lbe σ 9 l (c / 30) = true ∧ ∃ f, z_off σ c = some f) := by
        intro b hb hc
        split at hb
        · rename_i ho
          rw [← hb] at hc
          cases hc
          exact .inr ⟨e2 l, by rw [e1]; exact lbe_self σ l, Option.isSome_iff_exists.mp ho⟩
        · exact .inl (hb.trans hc)
      cases e : z_par σ l with
      | none =>
        rw [e] at h
        exact own _ rfl h
      | some p =>
        rw [e] at h
        rcases ih p _ h with h2 | ⟨h2, h3, h4⟩
        · exact own _ rfl h2
        · exact .inr ⟨h2, by rw [lbe_par hI e, h3]; simp, h4⟩
/-- what a finding leaves as it was -/
def FR (σ τ : SS) : Prop := tF σ τ ∧ tC σ τ ∧ tM σ τ ∧ z_nl τ = z_nl σ ∧ z_par τ = z_par σ ∧ z_off τ = z_off σ ∧ z_mk τ = z_mk σ ∧ z_mad σ ≤ z_mad τ ∧ (∀ c, z_the σ c = true → z_the τ c = true) ∧ (∀ c, z_the σ c = true ∨ z_mk σ c = true → z_sp τ c = z_sp σ c ∧ z_fc τ c = z_fc σ c ∧ z_abv τ c = z_abv σ c ∧ z_bt τ c = z_bt σ c ∧ z_rk τ c = z_rk σ c) ∧ (∀ c, z_mk σ c = true → z_the τ c = z_the σ c)
theorem tF_refl (σ : SS) : tF σ σ := ⟨rfl, rfl, rfl, rfl, rfl, rfl, rfl, rfl, rfl, rfl, rfl, rfl, rfl⟩
theorem tC_refl (σ : SS) : tC σ σ := ⟨rfl, rfl, rfl, rfl⟩
theorem tM_refl (σ : SS) : tM σ σ := ⟨rfl, rfl, rfl, rfl, rfl⟩
theorem tF_trans {σ τ υ : SS} (h : tF σ τ) (h2 : tF τ υ) : tF σ υ := by
  obtain ⟨a1, a2, a3, a4, a5, a6, a7, a8, a9, a10, a11, a12, a13⟩ := h
  obtain ⟨b1, b2, b3, b4, b5, b6, b7, b8, b9, b10, b11, b12, b13⟩ := h2
  exact ⟨b1.trans a1, b2.trans a2, b3.trans a3, b4.trans a4, b5.trans a5, b6.trans a6, b7.trans a7, b8.trans a8, b9.trans a9, b10.trans a10, b11.trans a11, b12.trans a12, b13.trans a13⟩
theorem tC_trans {σ τ υ : SS} (h : tC σ τ) (h2 : tC τ υ) : tC σ υ := by
  obtain ⟨a1, a2, a3, a4⟩ := h
  obtain ⟨b1, b2, b3, b4⟩ := h2
  exact ⟨b1.trans a1, b2.trans a2, b3.trans a3, b4.trans a4⟩
theorem tM_trans {σ τ υ : SS} (h : tM σ τ) (h2 : tM τ υ) : tM σ υ := by
  obtain ⟨a1, a2, a3, a4, a5⟩ := h
  obtain ⟨b1, b2, b3, b4, b5⟩ := h2
  exact ⟨b1.trans a1, b2.trans a2, b3.trans a3, b4.trans a4, b5.trans a5⟩
theorem FR_refl (σ : SS) : FR σ σ := ⟨tF_refl σ, tC_refl σ, tM_refl σ, rfl, rfl, rfl, rfl, Nat.le_refl _, fun _ h => h, fun _ _ => ⟨rfl, rfl, rfl, rfl, rfl⟩, fun _ _ => rfl⟩
theorem FR_trans {σ τ υ : SS} (h : FR σ τ) (h2 : FR τ υ) : FR σ υ := by
  obtain ⟨a1, a2, a3, a4, a5, a6, a7, a8, a9, a10, a11⟩ := h
  obtain ⟨b1, b2, b3, b4, b5, b6, b7, b8, b9, b10, b11⟩ := h2
  refine ⟨tF_trans a1 b1, tC_trans a2 b2, tM_trans a3 b3, b4.trans a4, b5.trans a5, b6.trans a6, b7.trans a7, Nat.le_trans a8 b8, fun c h => b9 c (a9 c h), fun c h => ?_, fun c h => ?_⟩
  · obtain ⟨p1, p2, p3, p4, p5⟩ := a10 c h
    obtain ⟨q1, q2, q3, q4, q5⟩ := b10 c (h.imp (a9 c) (fun h => by rw [a7]; exact h))
    exact ⟨q1.trans p1, q2.trans p2, q3.trans p3, q4.trans p4, q5.trans p5⟩
  · exact (b11 c (by rw [a7]; exact h)).trans (a11 c h)
