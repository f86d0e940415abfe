/-! PURE: finding ends: no name is made twice in one chain. -/
def far (σ : SS) : Nat → Nat → Nat → Option Nat → Option Nat
  | 0, _, _, a => a
  | k + 1, l, n, a => (match z_par σ l with
    | none => if (z_off σ (30 * l + n)).isSome = true then some (30 * l + n) else a
    | some p => far σ k p n (if (z_off σ (30 * l + n)).isSome = true then some (30 * l + n) else a))
def fr (σ : SS) (l n : Nat) : Option Nat := far σ 8 l n none
def own (σ : SS) (l n : Nat) : Option Nat := if (z_off σ (30 * l + n)).isSome = true then some (30 * l + n) else none
theorem far_acc (σ : SS) (n : Nat) : ∀ k l a, far σ k l n a = (far σ k l n none).or a := by
  intro k
  induction k with
  | zero => intro l a; simp [far]
  | succ k ih =>
    intro l a
    simp only [far]
    cases e : z_par σ l with
    | none =>
      dsimp only
      split <;> simp
    | some p =>
      dsimp only
      rw [ih p (if (z_off σ (30 * l + n)).isSome = true then some (30 * l + n) else a), ih p (if (z_off σ (30 * l + n)).isSome = true then some (30 * l + n) else none)]
      split
      · cases far σ k p n none <;> rfl
      · cases far σ k p n none <;> rfl
theorem far_fuel {σ : SS} (hI : IL σ) (n : Nat) : ∀ k m l a, l < k → l < m → far σ k l n a = far σ m l n a := by
  intro k
  induction k with
  | zero => intro m l a h; omega
  | succ k ih =>
    intro m l a h1 h2
    obtain ⟨m, rfl⟩ : ∃ q, m = q + 1 := ⟨m - 1, by omega⟩
    simp only [far]
    cases e : z_par σ l with
    | none => rfl
    | some p =>
      have := par_lt hI e
      exact ih m p _ (by omega) (by omega)
theorem fr_par {σ : SS} (hI : IL σ) {l p : Nat} (h : z_par σ l = some p) (n : Nat) : fr σ l n = (fr σ p n).or (own σ l n) := by
  have h1 := par_lt hI h
  have h2 := hI.2.1
  unfold fr own
  rw [show (8 : Nat) = 7 + 1 from rfl, far, h]
  show far σ 7 p n _ = _
  rw [far_fuel hI n 7 8 p _ (by omega) (by omega), far_acc]
theorem fr_root {σ : SS} {l : Nat} (h : z_par σ l = none) (n : Nat) : fr σ l n = own σ l n := by
  unfold fr own
  rw [show (8 : Nat) = 7 + 1 from rfl, far, h]
theorem fr_up {σ : SS} (hI : IL σ) {m n x : Nat} (hx : fr σ m n = some x) : ∀ l, lbe σ 9 l m = true → fr σ l n = some x := by
  intro l
  induction l using Nat.strongRecOn with
  | ind l ih =>
    intro h
    by_cases e : l = m
    · rw [e]
      exact hx
    · cases e2 : z_par σ l with
      | none =>
        rw [lbe_root e2] at h
        exact absurd (beq_iff_eq.mp h) e
      | some p =>
        rw [lbe_par hI e2] at h
        have h3 : lbe σ 9 p m = true := by simpa [e] using h
        rw [fr_par hI e2, ih p (par_lt hI e2).1 h3]
        rfl
theorem far_of_tof {σ : SS} {n c : Nat} (hc : z_the σ c = false) : ∀ k l a, tof σ k l n a = some c → far σ k l n a = some c := by
  intro k
  induction k with
  | zero => intro l a h; exact h
  | succ k ih =>
    intro l a h
    rw [tof] at h
    rw [far]
    split at h
    · rename_i ht
      cases h
      rw [hc] at ht
      cases ht
    · cases e : z_par σ l with
      | none =>
        rw [e] at h
        exact h
      | some p =>
        rw [e] at h
        exact ih p _ h
def NN (σ : SS) (l : Nat) : Nat := cnt (fun n => match fr σ l n with
  | none => false
  | some c => !z_mk σ c) 30
theorem far_congr {σ τ : SS} (hp : z_par τ = z_par σ) (ho : z_off τ = z_off σ) (n : Nat) : ∀ k l a, far τ k l n a = far σ k l n a := by
  intro k
  induction k with
  | zero => intro l a; rfl
  | succ k ih => intro l a; simp only [far, hp, ho, ih]
theorem NN_congr {σ τ : SS} (hp : z_par τ = z_par σ) (ho : z_off τ = z_off σ) (hm : z_mk τ = z_mk σ) (l : Nat) : NN τ l = NN σ l := by
  simp only [NN, fr, far_congr hp ho, hm]
theorem cnt_mono {P Q : Nat → Bool} {n : Nat} (h : ∀ i, i < n → Q i = true → P i = true) : cnt Q n ≤ cnt P n := by
  induction n with
  | zero => exact Nat.le_refl _
  | succ n ih =>
    have h1 := ih (fun i hi => h i (by omega))
    have h2 := h n (by omega)
    simp only [cnt]
    by_cases e : Q n = true
    · rw [if_pos e, if_pos (h2 e)]
      omega
    · rw [if_neg e]
      omega
theorem cnt_lt {P Q : Nat → Bool} {n k : Nat} (hk : k < n) (hP : P k = true) (hQ : Q k = false) (h : ∀ i, i < n → Q i = true → P i = true) : cnt Q n < cnt P n := by
  induction n with
  | zero => omega
  | succ n ih =>
    simp only [cnt]
    by_cases e : k = n
    · subst e
      have := cnt_mono (n := k) (P := P) (Q := Q) (fun i hi => h i (by omega))
      rw [hP, hQ]
      simp
      omega
    · have h1 := ih (by omega) (fun i hi => h i (by omega))
      have h2 := h n (by omega)
      by_cases e2 : Q n = true
      · rw [if_pos e2, if_pos (h2 e2)]
        omega
      · rw [if_neg e2]
        omega
theorem NN_start {σ : SS} (hI : IL σ) {l n c : Nat} (hn : n < 30) (h : tof σ 8 l n none = some c) (hl : lbe σ 9 l (c / 30) = true) (hc : z_the σ c = false) (hm : z_mk σ c = false) : NN (w_start σ c) (c / 30) < NN σ l := by
  have hf : fr σ l n = some c := far_of_tof hc 8 l none h
  have oc := OC_start σ c
  have e1 : ∀ k i, fr (w_start σ c) k i = fr σ k i := fun k i => far_congr oc.2.2.2.2.1 oc.2.2.2.2.2.1 i 8 k none
  have em : ∀ a, z_mk (w_start σ c) a = if a = c then true else z_mk σ a := fun a => by simp only [w_start, z_nf_mk, z_inn_mk, z_sup_mk, z_fac_mk, z_las_mk, z_lan_mk, z_fcn_mk, z_fnm_mk, z_acn_mk, z_ak_mk, z_aa_mk, z_ab_mk, z_ofd_mk, z_nl_mk, z_par_mk, z_off_mk, z_the_mk, z_sp_mk, z_fc_mk, z_mad_mk, z_mk_mk, z_abv_mk, z_bt_mk, z_rk_mk, z_nc_mk, z_cl_mk, z_cn_mk, z_cla_mk, z_row_mk, z_stp_mk, z_beg_mk, z_mst_mk, z_lst_mk, z_nf_sp, z_inn_sp, z_sup_sp, z_fac_sp, z_las_sp, z_lan_sp, z_fcn_sp, z_fnm_sp, z_acn_sp, z_ak_sp, z_aa_sp, z_ab_sp, z_ofd_sp, z_nl_sp, z_par_sp, z_off_sp, z_the_sp, z_sp_sp, z_fc_sp, z_mad_sp, z_mk_sp, z_abv_sp, z_bt_sp, z_rk_sp, z_nc_sp, z_cl_sp, z_cn_sp, z_cla_sp, z_row_sp, z_stp_sp, z_beg_sp, z_mst_sp, z_lst_sp, z_nf_abv, z_inn_abv, z_sup_abv, z_fac_abv, z_las_abv, z_lan_abv, z_fcn_abv, z_fnm_abv, z_acn_abv, z_ak_abv, z_aa_abv, z_ab_abv, z_ofd_abv, z_nl_abv, z_par_abv, z_off_abv, z_the_abv, z_sp_abv, z_fc_abv, z_mad_abv, z_mk_abv, z_abv_abv, z_bt_abv, z_rk_abv, z_nc_abv, z_cl_abv, z_cn_abv, z_cla_abv, z_row_abv, z_stp_abv, z_beg_abv, z_mst_abv, z_lst_abv, z_nf_bt, z_inn_bt, z_sup_bt, z_fac_bt, z_las_bt, z_lan_bt, z_fcn_bt, z_fnm_bt, z_acn_bt, z_ak_bt, z_aa_bt, z_ab_bt, z_ofd_bt, z_nl_bt, z_par_bt, z_off_bt, z_the_bt, z_sp_bt, z_fc_bt, z_mad_bt, z_mk_bt, z_abv_bt, z_bt_bt, z_rk_bt, z_nc_bt, z_cl_bt, z_cn_bt, z_cla_bt, z_row_bt, z_stp_bt, z_beg_bt, z_mst_bt, z_lst_bt]
  refine cnt_lt (k := n) hn ?_ ?_ ?_
  · rw [hf]
    simp [hm]
  · rw [e1]
    cases e : fr σ (c / 30) n with
    | none => rfl
    | some x =>
      have := fr_up hI e l hl
      rw [hf] at this
      cases this
      simp [em]
  · intro i hi h2
    rw [e1] at h2
    cases e : fr σ (c / 30) i with
    | none => rw [e] at h2; cases h2
    | some x =>
      rw [e] at h2
      rw [fr_up hI e l hl]
      dsimp only at h2 ⊢
      rw [em] at h2
      by_cases q : x = c
      · rw [if_pos q] at h2
        cases h2
      · rw [if_neg q] at h2
        exact h2
theorem NN_le (σ : SS) (l : Nat) : NN σ l ≤ 30 := cnt_le _ _
def TSp (fnd : FND) (k : Nat) : Prop := ∀ σ l n, II σ → l < z_nl σ → n < 30 → NN σ l < k → ∃ q, fnd σ l n = some q
theorem doPart_tot {fnd : FND} {k : Nat} (ht : TSp fnd k) {c : Nat} (s : Bool) (j : Nat) {n : Nat} {σ : SS} (hI : II σ) (hc : c / 30 < z_nl σ) (hn : n < 30) (hN : NN σ (c / 30) < k) : ∃ q, doPart fnd c s j n σ = some q := by
  obtain ⟨⟨σ1, q⟩, e⟩ := ht σ (c / 30) n hI hc hn hN
  unfold doPart
  rw [e]
  cases q with
  | inr r => exact ⟨_, rfl⟩
  | inl u =>
    dsimp only
    split <;> exact ⟨_, rfl⟩
theorem doFaces_tot {fnd : FND} {m : Nat} (hf : FSp fnd) (ht : TSp fnd m) {c f : Nat} : ∀ k j σ, II σ → MK σ c j → c / 30 < z_nl σ → z_off σ c = some f → NN σ (c / 30) < m → ∃ q, doFaces fnd c f k j σ = some q := by
  intro k
  induction k with
  | zero => intro j σ hI hM hc ho hN; exact ⟨_, rfl⟩
  | succ k ih =>
    intro j σ hI hM hc ho hN
    have hn := hI.1.2.2.2.2.2.1 f j
    obtain ⟨⟨σ1, r⟩, e⟩ := doPart_tot ht false j hI hc hn hN
    obtain ⟨h1, h2, h3, h4, h5⟩ := doPart_ok hf e hI hM hc hn ⟨f, ho⟩ (fun q => by cases q)
    rw [doFaces, e]
    dsimp only
    split
    · rename_i hr
      have h6 := h4 hr
      simp only [Bool.false_eq_true, if_false] at h6
      obtain ⟨a1, a2, a3, a4, a5, a6, a7, -⟩ := h1
      exact ih (j + 1) σ1 h2 h6 (by rw [a4]; exact hc) (by rw [a6]; exact ho) (by rw [NN_congr a5 a6 a7]; exact hN)
    · exact ⟨_, rfl⟩
theorem mkF_tot {fnd : FND} {m : Nat} (hf : FSp fnd) (ht : TSp fnd m) {c f : Nat} {σ : SS} (hI : II σ) (hc : c / 30 < z_nl σ) (ho : z_off σ c = some f) (hth : z_the σ c = false) (hN : z_mk σ c = false → NN (w_start σ c) (c / 30) < m) : ∃ q, mkF fnd c σ = some q := by
  unfold mkF
  rw [filO_eq ho]
  split
  · exact ⟨_, rfl⟩
  · rename_i hp
    have hmk : z_mk σ c = false := by
      cases e : z_mk σ c with
      | false => rfl
      | true =>
        refine absurd ?_ hp
        unfold mkfail
        rw [e]
        split
        · omega
        · split
          · omega
          · simp
    have hN1 := hN hmk
    have oc := OC_start σ c
    have hI1 := II_OC oc hth ⟨f, ho⟩ hI
    have hs1 : z_sp (w_start σ c) c = none := by simp only [w_start, z_nf_mk, z_inn_mk, z_sup_mk, z_fac_mk, z_las_mk, z_lan_mk, z_fcn_mk, z_fnm_mk, z_acn_mk, z_ak_mk, z_aa_mk, z_ab_mk, z_ofd_mk, z_nl_mk, z_par_mk, z_off_mk, z_the_mk, z_sp_mk, z_fc_mk, z_mad_mk, z_mk_mk, z_abv_mk, z_bt_mk, z_rk_mk, z_nc_mk, z_cl_mk, z_cn_mk, z_cla_mk, z_row_mk, z_stp_mk, z_beg_mk, z_mst_mk, z_lst_mk, z_nf_sp, z_inn_sp, z_sup_sp, z_fac_sp, z_las_sp, z_lan_sp, z_fcn_sp, z_fnm_sp, z_acn_sp, z_ak_sp, z_aa_sp, z_ab_sp, z_ofd_sp, z_nl_sp, z_par_sp, z_off_sp, z_the_sp, z_sp_sp, z_fc_sp, z_mad_sp, z_mk_sp, z_abv_sp, z_bt_sp, z_rk_sp, z_nc_sp, z_cl_sp, z_cn_sp, z_cla_sp, z_row_sp, z_stp_sp, z_beg_sp, z_mst_sp, z_lst_sp, z_nf_abv, z_inn_abv, z_sup_abv, z_fac_abv, z_las_abv, z_lan_abv, z_fcn_abv, z_fnm_abv, z_acn_abv, z_ak_abv, z_aa_abv, z_ab_abv, z_ofd_abv, z_nl_abv, z_par_abv, z_off_abv, z_the_abv, z_sp_abv, z_fc_abv, z_mad_abv, z_mk_abv, z_abv_abv, z_bt_abv, z_rk_abv, z_nc_abv, z_cl_abv, z_cn_abv, z_cla_abv, z_row_abv, z_stp_abv, z_beg_abv, z_mst_abv, z_lst_abv, z_nf_bt, z_inn_bt, z_sup_bt, z_fac_bt, z_las_bt, z_lan_bt, z_fcn_bt, z_fnm_bt, z_acn_bt, z_ak_bt, z_aa_bt, z_ab_bt, z_ofd_bt, z_nl_bt, z_par_bt, z_off_bt, z_the_bt, z_sp_bt, z_fc_bt, z_mad_bt, z_mk_bt, z_abv_bt, z_bt_bt, z_rk_bt, z_nc_bt, z_cl_bt, z_cn_bt, z_cla_bt, z_row_bt, z_stp_bt, z_beg_bt, z_mst_bt, z_lst_bt, if_true]
    have hM1 : MK (w_start σ c) c 0 := MK_start hth
    have hc1 : c / 30 < z_nl (w_start σ c) := by rw [oc.2.2.2.1]; exact hc
    have ho1 : z_off (w_start σ c) c = some f := by rw [oc.2.2.2.2.2.1]; exact ho
    have hS : ∃ q, doSup fnd c f (w_start σ c) = some q := by
      unfold doSup
      cases e2 : z_sup (w_start σ c) f with
      | none => exact ⟨_, rfl⟩
      | some n => exact doPart_tot ht true 0 hI1 hc1 (hI1.1.2.2.1 f n e2) hN1
    have hP : ∃ q, doParts fnd c f (w_start σ c) = some q := by
      obtain ⟨⟨σ1, r⟩, e⟩ := hS
      unfold doParts
      rw [e]
      dsimp only
      split
      · rename_i hr
        have h1 : FRx (w_start σ c) σ1 c ∧ II σ1 ∧ MK σ1 c 0 := by
          unfold doSup at e
          cases e2 : z_sup (w_start σ c) f with
          | none =>
            rw [e2] at e
            cases e
            exact ⟨FRx_of c (FR_refl _), hI1, hM1⟩
          | some n =>
            rw [e2] at e
            obtain ⟨q1, q2, q3, q4, q5⟩ := doPart_ok hf e hI1 hM1 hc1 (hI1.1.2.2.1 f n e2) ⟨f, ho1⟩ (fun _ => ⟨rfl, hs1⟩)
            have := q4 hr
            simp only [if_true] at this
            exact ⟨q1, q2, this⟩
        obtain ⟨⟨a1, a2, a3, a4, a5, a6, a7, -⟩, h2, h3⟩ := h1
        exact doFaces_tot hf ht _ _ _ h2 h3 (by rw [a4]; exact hc1) (by rw [a6]; exact ho1) (by rw [NN_congr a5 a6 a7]; exact hN1)
      · exact ⟨_, rfl⟩
    obtain ⟨⟨σ1, r⟩, e⟩ := hP
    rw [e]
    dsimp only
    split <;> exact ⟨_, rfl⟩
theorem fd_tot : ∀ k, TSp (fd k) k := by
  intro k
  induction k with
  | zero => intro σ l n _ _ _ h; omega
  | succ k ih =>
    intro σ l n hI hl hn hN
    rw [fd]
    cases e : tof σ 8 l n none with
    | none => exact ⟨_, rfl⟩
    | some c =>
      rcases tof_ok hI.2.1 hn 8 l none e with q | ⟨h1, h2, f, hf⟩
      · cases q
      · dsimp only
        split
        · exact ⟨_, rfl⟩
        · rename_i ht
          have ht2 : z_the σ c = false := by simpa using ht
          have hc : c / 30 < z_nl σ := by have := off_lt hI.2.1 hf; omega
          exact mkF_tot (fd_ok k) ih hI hc hf ht2 (fun hm => by have := NN_start hI.2.1 hn e h2 ht2 hm; omega)
/-- what finding finds -/
theorem fd_31 {σ : SS} (hI : II σ) {l n : Nat} (hl : l < z_nl σ) (hn : n < 30) : ∃ τ r, fd 31 σ l n = some (τ, r) := by
  obtain ⟨⟨τ, r⟩, e⟩ := fd_tot 31 σ l n hI hl hn (by have := NN_le σ l; omega)
  exact ⟨τ, r, e⟩
