/-! PURE: finding keeps the invariants, and always ends. -/
theorem II_FRmk {σ τ : SS} (h : FR σ τ) {c : Nat} (hm : z_mk σ c = true) : z_mk τ c = true := by
  rw [h.2.2.2.2.2.2.1]
  exact hm
theorem doPart_ok {fnd : FND} (hf : FSp fnd) {c j n : Nat} {s : Bool} {σ τ : SS} {r : Nat} (h : doPart fnd c s j n σ = some (τ, r)) (hI : II σ) (hM : MK σ c j) (hc : c / 30 < z_nl σ) (hn : n < 30) (ho : ∃ f, z_off σ c = some f) (hs : s = true → j = 0 ∧ z_sp σ c = none) :
    FRx σ τ c ∧ II τ ∧ r ≤ 17 ∧ (r = 0 → MK τ c (if s = true then j else j + 1)) ∧ z_mk τ c = true := by
  unfold doPart at h
  cases e : fnd σ (c / 30) n with
  | none => rw [e] at h; cases h
  | some q =>
    obtain ⟨σ1, q⟩ := q
    rw [e] at h
    obtain ⟨h1, h2, h3, h4⟩ := hf _ _ _ _ _ e hI hc hn
    have hM1 := MK_FR hM h1
    cases q with
    | inr q =>
      cases h
      have := h4 q rfl
      refine ⟨FRx_of c h1, h2, by split <;> omega, fun q2 => ?_, hM1.1⟩
      split at q2 <;> omega
    | inl u =>
      obtain ⟨u1, u2, u3⟩ := h3 u rfl
      have hne : ¬ c = c → False := fun q => q rfl
      dsimp only at h
      split at h
      · rename_i hp
        cases h
        have ho1 : ∃ f, z_off σ1 c = some f := by rw [h1.2.2.2.2.2.1]; exact ho
        have eL : lbe σ1 9 (c / 30) (u / 30) = true := by rw [lbe_st h1.2.2.2.2.1]; exact u3
        refine ⟨FRx_trans (FRx_of c h1) (FRx_OC (OC_put _ _ _ _ _) ?_), II_OC (OC_put _ _ _ _ _) hM1.2.1 ho1 h2, by omega, fun _ => ?_, ?_⟩
        · unfold w_put
          split
          · simp only [w_sup1, z_nf_sp, z_inn_sp, z_sup_sp, z_fac_sp, z_las_sp, z_lan_sp, z_fcn_sp, z_fnm_sp, z_acn_sp, z_ak_sp, z_aa_sp, z_ab_sp, z_ofd_sp, z_nl_sp, z_par_sp, z_off_sp, z_the_sp, z_sp_sp, z_fc_sp, z_mad_sp, z_mk_sp, z_abv_sp, z_bt_sp, z_rk_sp, z_nc_sp, z_cl_sp, z_cn_sp, z_cla_sp, z_row_sp, z_stp_sp, z_beg_sp, z_mst_sp, z_lst_sp, z_nf_abv, z_inn_abv, z_sup_abv, z_fac_abv, z_las_abv, z_lan_abv, z_fcn_abv, z_fnm_abv, z_acn_abv, z_ak_abv, z_aa_abv, z_ab_abv, z_ofd_abv, z_nl_abv, z_par_abv, z_off_abv, z_the_abv, z_sp_abv, z_fc_abv, z_mad_abv, z_mk_abv, z_abv_abv, z_bt_abv, z_rk_abv, z_nc_abv, z_cl_abv, z_cn_abv, z_cla_abv, z_row_abv, z_stp_abv, z_beg_abv, z_mst_abv, z_lst_abv, z_nf_bt, z_inn_bt, z_sup_bt, z_fac_bt, z_las_bt, z_lan_bt, z_fcn_bt, z_fnm_bt, z_acn_bt, z_ak_bt, z_aa_bt, z_ab_bt, z_ofd_bt, z_nl_bt, z_par_bt, z_off_bt, z_the_bt, z_sp_bt, z_fc_bt, z_mad_bt, z_mk_bt, z_abv_bt, z_bt_bt, z_rk_bt, z_nc_bt, z_cl_bt, z_cn_bt, z_cla_bt, z_row_bt, z_stp_bt, z_beg_bt, z_mst_bt, z_lst_bt]
          · simp only [w_face, z_nf_fc, z_inn_fc, z_sup_fc, z_fac_fc, z_las_fc, z_lan_fc, z_fcn_fc, z_fnm_fc, z_acn_fc, z_ak_fc, z_aa_fc, z_ab_fc, z_ofd_fc, z_nl_fc, z_par_fc, z_off_fc, z_the_fc, z_sp_fc, z_fc_fc, z_mad_fc, z_mk_fc, z_abv_fc, z_bt_fc, z_rk_fc, z_nc_fc, z_cl_fc, z_cn_fc, z_cla_fc, z_row_fc, z_stp_fc, z_beg_fc, z_mst_fc, z_lst_fc, z_nf_bt, z_inn_bt, z_sup_bt, z_fac_bt, z_las_bt, z_lan_bt, z_fcn_bt, z_fnm_bt, z_acn_bt, z_ak_bt, z_aa_bt, z_ab_bt, z_ofd_bt, z_nl_bt, z_par_bt, z_off_bt, z_the_bt, z_sp_bt, z_fc_bt, z_mad_bt, z_mk_bt, z_abv_bt, z_bt_bt, z_rk_bt, z_nc_bt, z_cl_bt, z_cn_bt, z_cla_bt, z_row_bt, z_stp_bt, z_beg_bt, z_mst_bt, z_lst_bt]
        · unfold w_put
          cases s with
          | true =>
            obtain ⟨s1, s2⟩ := hs rfl
            subst s1
            simp only [if_true]
            refine MK_sup1 hM1 ?_ u1 eL ?_
            · rw [(h1.2.2.2.2.2.2.2.2.2.1 c (.inr hM.1)).1]
              exact s2
            · unfold putF at hp
              split at hp
              · omega
              · split at hp
                · omega
                · split at hp
                  · omega
                  · rename_i q
                    simp only [true_and] at q
                    omega
          | false =>
            simp only [Bool.false_eq_true, if_false]
            exact MK_face hM1 u1 eL
        · unfold w_put
          split
          · simp only [w_sup1, z_nf_sp, z_inn_sp, z_sup_sp, z_fac_sp, z_las_sp, z_lan_sp, z_fcn_sp, z_fnm_sp, z_acn_sp, z_ak_sp, z_aa_sp, z_ab_sp, z_ofd_sp, z_nl_sp, z_par_sp, z_off_sp, z_the_sp, z_sp_sp, z_fc_sp, z_mad_sp, z_mk_sp, z_abv_sp, z_bt_sp, z_rk_sp, z_nc_sp, z_cl_sp, z_cn_sp, z_cla_sp, z_row_sp, z_stp_sp, z_beg_sp, z_mst_sp, z_lst_sp, z_nf_abv, z_inn_abv, z_sup_abv, z_fac_abv, z_las_abv, z_lan_abv, z_fcn_abv, z_fnm_abv, z_acn_abv, z_ak_abv, z_aa_abv, z_ab_abv, z_ofd_abv, z_nl_abv, z_par_abv, z_off_abv, z_the_abv, z_sp_abv, z_fc_abv, z_mad_abv, z_mk_abv, z_abv_abv, z_bt_abv, z_rk_abv, z_nc_abv, z_cl_abv, z_cn_abv, z_cla_abv, z_row_abv, z_stp_abv, z_beg_abv, z_mst_abv, z_lst_abv, z_nf_bt, z_inn_bt, z_sup_bt, z_fac_bt, z_las_bt, z_lan_bt, z_fcn_bt, z_fnm_bt, z_acn_bt, z_ak_bt, z_aa_bt, z_ab_bt, z_ofd_bt, z_nl_bt, z_par_bt, z_off_bt, z_the_bt, z_sp_bt, z_fc_bt, z_mad_bt, z_mk_bt, z_abv_bt, z_bt_bt, z_rk_bt, z_nc_bt, z_cl_bt, z_cn_bt, z_cla_bt, z_row_bt, z_stp_bt, z_beg_bt, z_mst_bt, z_lst_bt]
            exact hM1.1
          · simp only [w_face, z_nf_fc, z_inn_fc, z_sup_fc, z_fac_fc, z_las_fc, z_lan_fc, z_fcn_fc, z_fnm_fc, z_acn_fc, z_ak_fc, z_aa_fc, z_ab_fc, z_ofd_fc, z_nl_fc, z_par_fc, z_off_fc, z_the_fc, z_sp_fc, z_fc_fc, z_mad_fc, z_mk_fc, z_abv_fc, z_bt_fc, z_rk_fc, z_nc_fc, z_cl_fc, z_cn_fc, z_cla_fc, z_row_fc, z_stp_fc, z_beg_fc, z_mst_fc, z_lst_fc, z_nf_bt, z_inn_bt, z_sup_bt, z_fac_bt, z_las_bt, z_lan_bt, z_fcn_bt, z_fnm_bt, z_acn_bt, z_ak_bt, z_aa_bt, z_ab_bt, z_ofd_bt, z_nl_bt, z_par_bt, z_off_bt, z_the_bt, z_sp_bt, z_fc_bt, z_mad_bt, z_mk_bt, z_abv_bt, z_bt_bt, z_rk_bt, z_nc_bt, z_cl_bt, z_cn_bt, z_cla_bt, z_row_bt, z_stp_bt, z_beg_bt, z_mst_bt, z_lst_bt]
            exact hM1.1
      · rename_i hp
        cases h
        refine ⟨FRx_of c h1, h2, ?_, fun q => absurd q hp, hM1.1⟩
        unfold putF
        split
        · omega
        · split
          · omega
          · split <;> omega
theorem doFaces_ok {fnd : FND} (hf : FSp fnd) {c f : Nat} : ∀ k j σ τ r, doFaces fnd c f k j σ = some (τ, r) → II σ → MK σ c j → c / 30 < z_nl σ → z_off σ c = some f →
    FRx σ τ c ∧ II τ ∧ r ≤ 17 ∧ (r = 0 → MK τ c (j + k)) ∧ z_mk τ c = true := by
  intro k
  induction k with
  | zero =>
    intro j σ τ r h hI hM hc ho
    cases h
    exact ⟨FRx_of c (FR_refl σ), hI, by omega, fun _ => hM, hM.1⟩
  | succ k ih =>
    intro j σ τ r h hI hM hc ho
    rw [doFaces] at h
    cases e : doPart fnd c false j (z_fnm σ f j) σ with
    | none => rw [e] at h; cases h
    | some q =>
      obtain ⟨σ1, r1⟩ := q
      rw [e] at h
      obtain ⟨h1, h2, h3, h4, h5⟩ := doPart_ok hf e hI hM hc (hI.1.2.2.2.2.2.1 f j) ⟨f, ho⟩ (fun q => by cases q)
      dsimp only at h
      split at h
      · rename_i hr
        have h6 := h4 hr
        simp only [Bool.false_eq_true, if_false] at h6
        obtain ⟨p1, p2, p3, p4, p5⟩ := ih (j + 1) σ1 τ r h h2 h6 (by rw [h1.2.2.2.1]; exact hc) (by rw [h1.2.2.2.2.2.1]; exact ho)
        refine ⟨FRx_trans h1 p1, p2, p3, fun q => ?_, p5⟩
        rw [show j + (k + 1) = j + 1 + k by omega]
        exact p4 q
      · rename_i hr
        cases h
        exact ⟨h1, h2, h3, fun q => absurd q hr, h5⟩
theorem doParts_ok {fnd : FND} (hf : FSp fnd) {c f : Nat} {σ τ : SS} {r : Nat} (h : doParts fnd c f σ = some (τ, r)) (hI : II σ) (hM : MK σ c 0) (hs : z_sp σ c = none) (hc : c / 30 < z_nl σ) (ho : z_off σ c = some f) :
    FRx σ τ c ∧ II τ ∧ r ≤ 17 ∧ (r = 0 → MK τ c (z_fcn τ f)) ∧ z_mk τ c = true := by
  unfold doParts at h
  cases e : doSup fnd c f σ with
  | none => rw [e] at h; cases h
  | some q =>
    obtain ⟨σ1, r1⟩ := q
    rw [e] at h
    have hs1 : FRx σ σ1 c ∧ II σ1 ∧ r1 ≤ 17 ∧ (r1 = 0 → MK σ1 c 0) ∧ z_mk σ1 c = true := by
      unfold doSup at e
      cases e2 : z_sup σ f with
      | none =>
        rw [e2] at e
        cases e
        exact ⟨FRx_of c (FR_refl σ), hI, by omega, fun _ => hM, hM.1⟩
      | some n =>
        rw [e2] at e
        have := doPart_ok hf e hI hM hc (hI.1.2.2.1 f n e2) ⟨f, ho⟩ (fun _ => ⟨rfl, hs⟩)
        simpa only [if_true] using this
    obtain ⟨h1, h2, h3, h4, h5⟩ := hs1
    dsimp only at h
    split at h
    · rename_i hr
      obtain ⟨p1, p2, p3, p4, p5⟩ := doFaces_ok hf _ _ _ _ _ h h2 (h4 hr) (by rw [h1.2.2.2.1]; exact hc) (by rw [h1.2.2.2.2.2.1]; exact ho)
      refine ⟨FRx_trans h1 p1, p2, p3, fun q => ?_, p5⟩
      have e6 : z_fcn τ = z_fcn σ := (p1.1.2.2.2.2.2.2.1).trans h1.1.2.2.2.2.2.2.1
      rw [e6]
      simpa only [Nat.zero_add] using p4 q
    · rename_i hr
      cases h
      exact ⟨h1, h2, h3, fun q => absurd q hr, h5⟩
theorem filO_eq {σ : SS} {c f : Nat} (h : z_off σ c = some f) : filO σ c = f := by
  unfold filO
  rw [h]
  rfl
theorem mkfail_le (σ : SS) (c f : Nat) : mkfail σ c f ≤ 17 := by
  unfold mkfail
  split
  · omega
  · split
    · omega
    · split <;> omega
theorem mkF_ok {fnd : FND} (hf : FSp fnd) {c f : Nat} {σ τ : SS} {r : Nat ⊕ Nat} (h : mkF fnd c σ = some (τ, r)) (hI : II σ) (hc : c / 30 < z_nl σ) (ho : z_off σ c = some f) (ht : z_the σ c = false) :
    FR σ τ ∧ II τ ∧ (∀ a, r = .inl a → a = c ∧ z_the τ c = true) ∧ (∀ q, r = .inr q → 1 ≤ q ∧ q ≤ 17) := by
  unfold mkF at h
  rw [filO_eq ho] at h
  split at h
  · rename_i hp
    cases h
    have := mkfail_le σ c f
    refine ⟨FR_refl _, hI, fun a q => (by cases q), fun q q2 => ?_⟩
    cases q2
    omega
  · rename_i hp
    have hmk : z_mk σ c = false := by
      cases e : z_mk σ c with
      | false => rfl
      | true =>
        refine absurd ?_ hp
        unfold mkfail
        rw [e]
        split
        · omega
        · split
          · omega
          · simp
    have oc := OC_start σ c
    have hI1 := II_OC oc ht ⟨f, ho⟩ hI
    have hs1 : z_sp (w_start σ c) c = none := by simp only [w_start, z_nf_mk, z_inn_mk, z_sup_mk, z_fac_mk, z_las_mk, z_lan_mk, z_fcn_mk, z_fnm_mk, z_acn_mk, z_ak_mk, z_aa_mk, z_ab_mk, z_ofd_mk, z_nl_mk, z_par_mk, z_off_mk, z_the_mk, z_sp_mk, z_fc_mk, z_mad_mk, z_mk_mk, z_abv_mk, z_bt_mk, z_rk_mk, z_nc_mk, z_cl_mk, z_cn_mk, z_cla_mk, z_row_mk, z_stp_mk, z_beg_mk, z_mst_mk, z_lst_mk, z_nf_sp, z_inn_sp, z_sup_sp, z_fac_sp, z_las_sp, z_lan_sp, z_fcn_sp, z_fnm_sp, z_acn_sp, z_ak_sp, z_aa_sp, z_ab_sp, z_ofd_sp, z_nl_sp, z_par_sp, z_off_sp, z_the_sp, z_sp_sp, z_fc_sp, z_mad_sp, z_mk_sp, z_abv_sp, z_bt_sp, z_rk_sp, z_nc_sp, z_cl_sp, z_cn_sp, z_cla_sp, z_row_sp, z_stp_sp, z_beg_sp, z_mst_sp, z_lst_sp, z_nf_abv, z_inn_abv, z_sup_abv, z_fac_abv, z_las_abv, z_lan_abv, z_fcn_abv, z_fnm_abv, z_acn_abv, z_ak_abv, z_aa_abv, z_ab_abv, z_ofd_abv, z_nl_abv, z_par_abv, z_off_abv, z_the_abv, z_sp_abv, z_fc_abv, z_mad_abv, z_mk_abv, z_abv_abv, z_bt_abv, z_rk_abv, z_nc_abv, z_cl_abv, z_cn_abv, z_cla_abv, z_row_abv, z_stp_abv, z_beg_abv, z_mst_abv, z_lst_abv, z_nf_bt, z_inn_bt, z_sup_bt, z_fac_bt, z_las_bt, z_lan_bt, z_fcn_bt, z_fnm_bt, z_acn_bt, z_ak_bt, z_aa_bt, z_ab_bt, z_ofd_bt, z_nl_bt, z_par_bt, z_off_bt, z_the_bt, z_sp_bt, z_fc_bt, z_mad_bt, z_mk_bt, z_abv_bt, z_bt_bt, z_rk_bt, z_nc_bt, z_cl_bt, z_cn_bt, z_cla_bt, z_row_bt, z_stp_bt, z_beg_bt, z_mst_bt, z_lst_bt, if_true]
    cases e : doParts fnd c f (w_start σ c) with
    | none => rw [e] at h; cases h
    | some q =>
      obtain ⟨σ1, r1⟩ := q
      rw [e] at h
      obtain ⟨⟨a1, a2, a3, a4, a5, a6, a7, a8, a9, a10, a11⟩, h2, h3, h4, h5⟩ := doParts_ok hf e hI1 (MK_start ht) hs1 (by rw [oc.2.2.2.1]; exact hc) (by rw [oc.2.2.2.2.2.1]; exact ho)
      obtain ⟨b1, b2, b3, b4, b5, b6, b7, b8, b9⟩ := oc
      have ht1 : z_the σ1 c = false := by
        rw [a11 c (by simp only [w_start, z_nf_mk, z_inn_mk, z_sup_mk, z_fac_mk, z_las_mk, z_lan_mk, z_fcn_mk, z_fnm_mk, z_acn_mk, z_ak_mk, z_aa_mk, z_ab_mk, z_ofd_mk, z_nl_mk, z_par_mk, z_off_mk, z_the_mk, z_sp_mk, z_fc_mk, z_mad_mk, z_mk_mk, z_abv_mk, z_bt_mk, z_rk_mk, z_nc_mk, z_cl_mk, z_cn_mk, z_cla_mk, z_row_mk, z_stp_mk, z_beg_mk, z_mst_mk, z_lst_mk, z_nf_sp, z_inn_sp, z_sup_sp, z_fac_sp, z_las_sp, z_lan_sp, z_fcn_sp, z_fnm_sp, z_acn_sp, z_ak_sp, z_aa_sp, z_ab_sp, z_ofd_sp, z_nl_sp, z_par_sp, z_off_sp, z_the_sp, z_sp_sp, z_fc_sp, z_mad_sp, z_mk_sp, z_abv_sp, z_bt_sp, z_rk_sp, z_nc_sp, z_cl_sp, z_cn_sp, z_cla_sp, z_row_sp, z_stp_sp, z_beg_sp, z_mst_sp, z_lst_sp, z_nf_abv, z_inn_abv, z_sup_abv, z_fac_abv, z_las_abv, z_lan_abv, z_fcn_abv, z_fnm_abv, z_acn_abv, z_ak_abv, z_aa_abv, z_ab_abv, z_ofd_abv, z_nl_abv, z_par_abv, z_off_abv, z_the_abv, z_sp_abv, z_fc_abv, z_mad_abv, z_mk_abv, z_abv_abv, z_bt_abv, z_rk_abv, z_nc_abv, z_cl_abv, z_cn_abv, z_cla_abv, z_row_abv, z_stp_abv, z_beg_abv, z_mst_abv, z_lst_abv, z_nf_bt, z_inn_bt, z_sup_bt, z_fac_bt, z_las_bt, z_lan_bt, z_fcn_bt, z_fnm_bt, z_acn_bt, z_ak_bt, z_aa_bt, z_ab_bt, z_ofd_bt, z_nl_bt, z_par_bt, z_off_bt, z_the_bt, z_sp_bt, z_fc_bt, z_mad_bt, z_mk_bt, z_abv_bt, z_bt_bt, z_rk_bt, z_nc_bt, z_cl_bt, z_cn_bt, z_cla_bt, z_row_bt, z_stp_bt, z_beg_bt, z_mst_bt, z_lst_bt, if_true]), b7]
        exact ht
      have nec : ∀ a, z_the σ a = true ∨ z_mk σ a = true → ¬ a = c := by
        rintro a ha rfl
        rw [ht, hmk] at ha
        simp at ha
      have emk : ∀ a, ¬ a = c → z_mk σ1 a = z_mk σ a := fun a ha => by rw [a7]; exact (b9 a ha).2.2.2.2.2
      have ho1 : z_off σ1 c = some f := by rw [a6, b6]; exact ho
      have old : ∀ a, z_the σ a = true ∨ z_mk σ a = true → z_sp σ1 a = z_sp σ a ∧ z_fc σ1 a = z_fc σ a ∧ z_abv σ1 a = z_abv σ a ∧ z_bt σ1 a = z_bt σ a ∧ z_rk σ1 a = z_rk σ a := by
        intro a ha
        obtain ⟨q1, q2, q3, q4, q5, q6⟩ := b9 a (nec a ha)
        obtain ⟨p1, p2, p3, p4, p5⟩ := a10 a (nec a ha) (by rw [b7, q6]; exact ha)
        exact ⟨p1.trans q1, p2.trans q2, p3.trans q3, p4.trans q4, p5.trans q5⟩
      dsimp only at h
      split at h
      · rename_i hr
        cases h
        have sf : tF σ1 (w_done σ1 c) := (by simp only [tF, w_done, z_nf_the, z_inn_the, z_sup_the, z_fac_the, z_las_the, z_lan_the, z_fcn_the, z_fnm_the, z_acn_the, z_ak_the, z_aa_the, z_ab_the, z_ofd_the, z_nl_the, z_par_the, z_off_the, z_the_the, z_sp_the, z_fc_the, z_mad_the, z_mk_the, z_abv_the, z_bt_the, z_rk_the, z_nc_the, z_cl_the, z_cn_the, z_cla_the, z_row_the, z_stp_the, z_beg_the, z_mst_the, z_lst_the, z_nf_mk, z_inn_mk, z_sup_mk, z_fac_mk, z_las_mk, z_lan_mk, z_fcn_mk, z_fnm_mk, z_acn_mk, z_ak_mk, z_aa_mk, z_ab_mk, z_ofd_mk, z_nl_mk, z_par_mk, z_off_mk, z_the_mk, z_sp_mk, z_fc_mk, z_mad_mk, z_mk_mk, z_abv_mk, z_bt_mk, z_rk_mk, z_nc_mk, z_cl_mk, z_cn_mk, z_cla_mk, z_row_mk, z_stp_mk, z_beg_mk, z_mst_mk, z_lst_mk, z_nf_rk, z_inn_rk, z_sup_rk, z_fac_rk, z_las_rk, z_lan_rk, z_fcn_rk, z_fnm_rk, z_acn_rk, z_ak_rk, z_aa_rk, z_ab_rk, z_ofd_rk, z_nl_rk, z_par_rk, z_off_rk, z_the_rk, z_sp_rk, z_fc_rk, z_mad_rk, z_mk_rk, z_abv_rk, z_bt_rk, z_rk_rk, z_nc_rk, z_cl_rk, z_cn_rk, z_cla_rk, z_row_rk, z_stp_rk, z_beg_rk, z_mst_rk, z_lst_rk, z_nf_mad, z_inn_mad, z_sup_mad, z_fac_mad, z_las_mad, z_lan_mad, z_fcn_mad, z_fnm_mad, z_acn_mad, z_ak_mad, z_aa_mad, z_ab_mad, z_ofd_mad, z_nl_mad, z_par_mad, z_off_mad, z_the_mad, z_sp_mad, z_fc_mad, z_mad_mad, z_mk_mad, z_abv_mad, z_bt_mad, z_rk_mad, z_nc_mad, z_cl_mad, z_cn_mad, z_cla_mad, z_row_mad, z_stp_mad, z_beg_mad, z_mst_mad, z_lst_mad, and_self])
        have sc : tC σ1 (w_done σ1 c) := (by simp only [tC, w_done, z_nf_the, z_inn_the, z_sup_the, z_fac_the, z_las_the, z_lan_the, z_fcn_the, z_fnm_the, z_acn_the, z_ak_the, z_aa_the, z_ab_the, z_ofd_the, z_nl_the, z_par_the, z_off_the, z_the_the, z_sp_the, z_fc_the, z_mad_the, z_mk_the, z_abv_the, z_bt_the, z_rk_the, z_nc_the, z_cl_the, z_cn_the, z_cla_the, z_row_the, z_stp_the, z_beg_the, z_mst_the, z_lst_the, z_nf_mk, z_inn_mk, z_sup_mk, z_fac_mk, z_las_mk, z_lan_mk, z_fcn_mk, z_fnm_mk, z_acn_mk, z_ak_mk, z_aa_mk, z_ab_mk, z_ofd_mk, z_nl_mk, z_par_mk, z_off_mk, z_the_mk, z_sp_mk, z_fc_mk, z_mad_mk, z_mk_mk, z_abv_mk, z_bt_mk, z_rk_mk, z_nc_mk, z_cl_mk, z_cn_mk, z_cla_mk, z_row_mk, z_stp_mk, z_beg_mk, z_mst_mk, z_lst_mk, z_nf_rk, z_inn_rk, z_sup_rk, z_fac_rk, z_las_rk, z_lan_rk, z_fcn_rk, z_fnm_rk, z_acn_rk, z_ak_rk, z_aa_rk, z_ab_rk, z_ofd_rk, z_nl_rk, z_par_rk, z_off_rk, z_the_rk, z_sp_rk, z_fc_rk, z_mad_rk, z_mk_rk, z_abv_rk, z_bt_rk, z_rk_rk, z_nc_rk, z_cl_rk, z_cn_rk, z_cla_rk, z_row_rk, z_stp_rk, z_beg_rk, z_mst_rk, z_lst_rk, z_nf_mad, z_inn_mad, z_sup_mad, z_fac_mad, z_las_mad, z_lan_mad, z_fcn_mad, z_fnm_mad, z_acn_mad, z_ak_mad, z_aa_mad, z_ab_mad, z_ofd_mad, z_nl_mad, z_par_mad, z_off_mad, z_the_mad, z_sp_mad, z_fc_mad, z_mad_mad, z_mk_mad, z_abv_mad, z_bt_mad, z_rk_mad, z_nc_mad, z_cl_mad, z_cn_mad, z_cla_mad, z_row_mad, z_stp_mad, z_beg_mad, z_mst_mad, z_lst_mad, and_self])
        have sm : tM σ1 (w_done σ1 c) := (by simp only [tM, w_done, z_nf_the, z_inn_the, z_sup_the, z_fac_the, z_las_the, z_lan_the, z_fcn_the, z_fnm_the, z_acn_the, z_ak_the, z_aa_the, z_ab_the, z_ofd_the, z_nl_the, z_par_the, z_off_the, z_the_the, z_sp_the, z_fc_the, z_mad_the, z_mk_the, z_abv_the, z_bt_the, z_rk_the, z_nc_the, z_cl_the, z_cn_the, z_cla_the, z_row_the, z_stp_the, z_beg_the, z_mst_the, z_lst_the, z_nf_mk, z_inn_mk, z_sup_mk, z_fac_mk, z_las_mk, z_lan_mk, z_fcn_mk, z_fnm_mk, z_acn_mk, z_ak_mk, z_aa_mk, z_ab_mk, z_ofd_mk, z_nl_mk, z_par_mk, z_off_mk, z_the_mk, z_sp_mk, z_fc_mk, z_mad_mk, z_mk_mk, z_abv_mk, z_bt_mk, z_rk_mk, z_nc_mk, z_cl_mk, z_cn_mk, z_cla_mk, z_row_mk, z_stp_mk, z_beg_mk, z_mst_mk, z_lst_mk, z_nf_rk, z_inn_rk, z_sup_rk, z_fac_rk, z_las_rk, z_lan_rk, z_fcn_rk, z_fnm_rk, z_acn_rk, z_ak_rk, z_aa_rk, z_ab_rk, z_ofd_rk, z_nl_rk, z_par_rk, z_off_rk, z_the_rk, z_sp_rk, z_fc_rk, z_mad_rk, z_mk_rk, z_abv_rk, z_bt_rk, z_rk_rk, z_nc_rk, z_cl_rk, z_cn_rk, z_cla_rk, z_row_rk, z_stp_rk, z_beg_rk, z_mst_rk, z_lst_rk, z_nf_mad, z_inn_mad, z_sup_mad, z_fac_mad, z_las_mad, z_lan_mad, z_fcn_mad, z_fnm_mad, z_acn_mad, z_ak_mad, z_aa_mad, z_ab_mad, z_ofd_mad, z_nl_mad, z_par_mad, z_off_mad, z_the_mad, z_sp_mad, z_fc_mad, z_mad_mad, z_mk_mad, z_abv_mad, z_bt_mad, z_rk_mad, z_nc_mad, z_cl_mad, z_cn_mad, z_cla_mad, z_row_mad, z_stp_mad, z_beg_mad, z_mst_mad, z_lst_mad, and_self])
        refine ⟨⟨tF_trans (tF_trans b1 a1) sf, tC_trans (tC_trans b2 a2) sc, tM_trans (tM_trans b3 a3) sm, ?_, ?_, ?_, ?_, ?_, ?_, ?_, ?_⟩, II_done h2 ho1 (h4 hr), fun a q => ?_, fun q q2 => by cases q2⟩
        · simp only [w_done, z_nf_the, z_inn_the, z_sup_the, z_fac_the, z_las_the, z_lan_the, z_fcn_the, z_fnm_the, z_acn_the, z_ak_the, z_aa_the, z_ab_the, z_ofd_the, z_nl_the, z_par_the, z_off_the, z_the_the, z_sp_the, z_fc_the, z_mad_the, z_mk_the, z_abv_the, z_bt_the, z_rk_the, z_nc_the, z_cl_the, z_cn_the, z_cla_the, z_row_the, z_stp_the, z_beg_the, z_mst_the, z_lst_the, z_nf_mk, z_inn_mk, z_sup_mk, z_fac_mk, z_las_mk, z_lan_mk, z_fcn_mk, z_fnm_mk, z_acn_mk, z_ak_mk, z_aa_mk, z_ab_mk, z_ofd_mk, z_nl_mk, z_par_mk, z_off_mk, z_the_mk, z_sp_mk, z_fc_mk, z_mad_mk, z_mk_mk, z_abv_mk, z_bt_mk, z_rk_mk, z_nc_mk, z_cl_mk, z_cn_mk, z_cla_mk, z_row_mk, z_stp_mk, z_beg_mk, z_mst_mk, z_lst_mk, z_nf_rk, z_inn_rk, z_sup_rk, z_fac_rk, z_las_rk, z_lan_rk, z_fcn_rk, z_fnm_rk, z_acn_rk, z_ak_rk, z_aa_rk, z_ab_rk, z_ofd_rk, z_nl_rk, z_par_rk, z_off_rk, z_the_rk, z_sp_rk, z_fc_rk, z_mad_rk, z_mk_rk, z_abv_rk, z_bt_rk, z_rk_rk, z_nc_rk, z_cl_rk, z_cn_rk, z_cla_rk, z_row_rk, z_stp_rk, z_beg_rk, z_mst_rk, z_lst_rk, z_nf_mad, z_inn_mad, z_sup_mad, z_fac_mad, z_las_mad, z_lan_mad, z_fcn_mad, z_fnm_mad, z_acn_mad, z_ak_mad, z_aa_mad, z_ab_mad, z_ofd_mad, z_nl_mad, z_par_mad, z_off_mad, z_the_mad, z_sp_mad, z_fc_mad, z_mad_mad, z_mk_mad, z_abv_mad, z_bt_mad, z_rk_mad, z_nc_mad, z_cl_mad, z_cn_mad, z_cla_mad, z_row_mad, z_stp_mad, z_beg_mad, z_mst_mad, z_lst_mad]
          exact a4.trans b4
        · simp only [w_done, z_nf_the, z_inn_the, z_sup_the, z_fac_the, z_las_the, z_lan_the, z_fcn_the, z_fnm_the, z_acn_the, z_ak_the, z_aa_the, z_ab_the, z_ofd_the, z_nl_the, z_par_the, z_off_the, z_the_the, z_sp_the, z_fc_the, z_mad_the, z_mk_the, z_abv_the, z_bt_the, z_rk_the, z_nc_the, z_cl_the, z_cn_the, z_cla_the, z_row_the, z_stp_the, z_beg_the, z_mst_the, z_lst_the, z_nf_mk, z_inn_mk, z_sup_mk, z_fac_mk, z_las_mk, z_lan_mk, z_fcn_mk, z_fnm_mk, z_acn_mk, z_ak_mk, z_aa_mk, z_ab_mk, z_ofd_mk, z_nl_mk, z_par_mk, z_off_mk, z_the_mk, z_sp_mk, z_fc_mk, z_mad_mk, z_mk_mk, z_abv_mk, z_bt_mk, z_rk_mk, z_nc_mk, z_cl_mk, z_cn_mk, z_cla_mk, z_row_mk, z_stp_mk, z_beg_mk, z_mst_mk, z_lst_mk, z_nf_rk, z_inn_rk, z_sup_rk, z_fac_rk, z_las_rk, z_lan_rk, z_fcn_rk, z_fnm_rk, z_acn_rk, z_ak_rk, z_aa_rk, z_ab_rk, z_ofd_rk, z_nl_rk, z_par_rk, z_off_rk, z_the_rk, z_sp_rk, z_fc_rk, z_mad_rk, z_mk_rk, z_abv_rk, z_bt_rk, z_rk_rk, z_nc_rk, z_cl_rk, z_cn_rk, z_cla_rk, z_row_rk, z_stp_rk, z_beg_rk, z_mst_rk, z_lst_rk, z_nf_mad, z_inn_mad, z_sup_mad, z_fac_mad, z_las_mad, z_lan_mad, z_fcn_mad, z_fnm_mad, z_acn_mad, z_ak_mad, z_aa_mad, z_ab_mad, z_ofd_mad, z_nl_mad, z_par_mad, z_off_mad, z_the_mad, z_sp_mad, z_fc_mad, z_mad_mad, z_mk_mad, z_abv_mad, z_bt_mad, z_rk_mad, z_nc_mad, z_cl_mad, z_cn_mad, z_cla_mad, z_row_mad, z_stp_mad, z_beg_mad, z_mst_mad, z_lst_mad]
          exact a5.trans b5
        · simp only [w_done, z_nf_the, z_inn_the, z_sup_the, z_fac_the, z_las_the, z_lan_the, z_fcn_the, z_fnm_the, z_acn_the, z_ak_the, z_aa_the, z_ab_the, z_ofd_the, z_nl_the, z_par_the, z_off_the, z_the_the, z_sp_the, z_fc_the, z_mad_the, z_mk_the, z_abv_the, z_bt_the, z_rk_the, z_nc_the, z_cl_the, z_cn_the, z_cla_the, z_row_the, z_stp_the, z_beg_the, z_mst_the, z_lst_the, z_nf_mk, z_inn_mk, z_sup_mk, z_fac_mk, z_las_mk, z_lan_mk, z_fcn_mk, z_fnm_mk, z_acn_mk, z_ak_mk, z_aa_mk, z_ab_mk, z_ofd_mk, z_nl_mk, z_par_mk, z_off_mk, z_the_mk, z_sp_mk, z_fc_mk, z_mad_mk, z_mk_mk, z_abv_mk, z_bt_mk, z_rk_mk, z_nc_mk, z_cl_mk, z_cn_mk, z_cla_mk, z_row_mk, z_stp_mk, z_beg_mk, z_mst_mk, z_lst_mk, z_nf_rk, z_inn_rk, z_sup_rk, z_fac_rk, z_las_rk, z_lan_rk, z_fcn_rk, z_fnm_rk, z_acn_rk, z_ak_rk, z_aa_rk, z_ab_rk, z_ofd_rk, z_nl_rk, z_par_rk, z_off_rk, z_the_rk, z_sp_rk, z_fc_rk, z_mad_rk, z_mk_rk, z_abv_rk, z_bt_rk, z_rk_rk, z_nc_rk, z_cl_rk, z_cn_rk, z_cla_rk, z_row_rk, z_stp_rk, z_beg_rk, z_mst_rk, z_lst_rk, z_nf_mad, z_inn_mad, z_sup_mad, z_fac_mad, z_las_mad, z_lan_mad, z_fcn_mad, z_fnm_mad, z_acn_mad, z_ak_mad, z_aa_mad, z_ab_mad, z_ofd_mad, z_nl_mad, z_par_mad, z_off_mad, z_the_mad, z_sp_mad, z_fc_mad, z_mad_mad, z_mk_mad, z_abv_mad, z_bt_mad, z_rk_mad, z_nc_mad, z_cl_mad, z_cn_mad, z_cla_mad, z_row_mad, z_stp_mad, z_beg_mad, z_mst_mad, z_lst_mad]
          exact a6.trans b6
        · simp only [w_done, z_nf_the, z_inn_the, z_sup_the, z_fac_the, z_las_the, z_lan_the, z_fcn_the, z_fnm_the, z_acn_the, z_ak_the, z_aa_the, z_ab_the, z_ofd_the, z_nl_the, z_par_the, z_off_the, z_the_the, z_sp_the, z_fc_the, z_mad_the, z_mk_the, z_abv_the, z_bt_the, z_rk_the, z_nc_the, z_cl_the, z_cn_the, z_cla_the, z_row_the, z_stp_the, z_beg_the, z_mst_the, z_lst_the, z_nf_mk, z_inn_mk, z_sup_mk, z_fac_mk, z_las_mk, z_lan_mk, z_fcn_mk, z_fnm_mk, z_acn_mk, z_ak_mk, z_aa_mk, z_ab_mk, z_ofd_mk, z_nl_mk, z_par_mk, z_off_mk, z_the_mk, z_sp_mk, z_fc_mk, z_mad_mk, z_mk_mk, z_abv_mk, z_bt_mk, z_rk_mk, z_nc_mk, z_cl_mk, z_cn_mk, z_cla_mk, z_row_mk, z_stp_mk, z_beg_mk, z_mst_mk, z_lst_mk, z_nf_rk, z_inn_rk, z_sup_rk, z_fac_rk, z_las_rk, z_lan_rk, z_fcn_rk, z_fnm_rk, z_acn_rk, z_ak_rk, z_aa_rk, z_ab_rk, z_ofd_rk, z_nl_rk, z_par_rk, z_off_rk, z_the_rk, z_sp_rk, z_fc_rk, z_mad_rk, z_mk_rk, z_abv_rk, z_bt_rk, z_rk_rk, z_nc_rk, z_cl_rk, z_cn_rk, z_cla_rk, z_row_rk, z_stp_rk, z_beg_rk, z_mst_rk, z_lst_rk, z_nf_mad, z_inn_mad, z_sup_mad, z_fac_mad, z_las_mad, z_lan_mad, z_fcn_mad, z_fnm_mad, z_acn_mad, z_ak_mad, z_aa_mad, z_ab_mad, z_ofd_mad, z_nl_mad, z_par_mad, z_off_mad, z_the_mad, z_sp_mad, z_fc_mad, z_mad_mad, z_mk_mad, z_abv_mad, z_bt_mad, z_rk_mad, z_nc_mad, z_cl_mad, z_cn_mad, z_cla_mad, z_row_mad, z_stp_mad, z_beg_mad, z_mst_mad, z_lst_mad]
          funext a
          by_cases ha : a = c
          · rw [if_pos ha, ha, hmk]
          · rw [if_neg ha]
            exact emk a ha
        · simp only [w_done, z_nf_the, z_inn_the, z_sup_the, z_fac_the, z_las_the, z_lan_the, z_fcn_the, z_fnm_the, z_acn_the, z_ak_the, z_aa_the, z_ab_the, z_ofd_the, z_nl_the, z_par_the, z_off_the, z_the_the, z_sp_the, z_fc_the, z_mad_the, z_mk_the, z_abv_the, z_bt_the, z_rk_the, z_nc_the, z_cl_the, z_cn_the, z_cla_the, z_row_the, z_stp_the, z_beg_the, z_mst_the, z_lst_the, z_nf_mk, z_inn_mk, z_sup_mk, z_fac_mk, z_las_mk, z_lan_mk, z_fcn_mk, z_fnm_mk, z_acn_mk, z_ak_mk, z_aa_mk, z_ab_mk, z_ofd_mk, z_nl_mk, z_par_mk, z_off_mk, z_the_mk, z_sp_mk, z_fc_mk, z_mad_mk, z_mk_mk, z_abv_mk, z_bt_mk, z_rk_mk, z_nc_mk, z_cl_mk, z_cn_mk, z_cla_mk, z_row_mk, z_stp_mk, z_beg_mk, z_mst_mk, z_lst_mk, z_nf_rk, z_inn_rk, z_sup_rk, z_fac_rk, z_las_rk, z_lan_rk, z_fcn_rk, z_fnm_rk, z_acn_rk, z_ak_rk, z_aa_rk, z_ab_rk, z_ofd_rk, z_nl_rk, z_par_rk, z_off_rk, z_the_rk, z_sp_rk, z_fc_rk, z_mad_rk, z_mk_rk, z_abv_rk, z_bt_rk, z_rk_rk, z_nc_rk, z_cl_rk, z_cn_rk, z_cla_rk, z_row_rk, z_stp_rk, z_beg_rk, z_mst_rk, z_lst_rk, z_nf_mad, z_inn_mad, z_sup_mad, z_fac_mad, z_las_mad, z_lan_mad, z_fcn_mad, z_fnm_mad, z_acn_mad, z_ak_mad, z_aa_mad, z_ab_mad, z_ofd_mad, z_nl_mad, z_par_mad, z_off_mad, z_the_mad, z_sp_mad, z_fc_mad, z_mad_mad, z_mk_mad, z_abv_mad, z_bt_mad, z_rk_mad, z_nc_mad, z_cl_mad, z_cn_mad, z_cla_mad, z_row_mad, z_stp_mad, z_beg_mad, z_mst_mad, z_lst_mad]
          rw [b8] at a8
          omega
        · simp only [w_done, z_nf_the, z_inn_the, z_sup_the, z_fac_the, z_las_the, z_lan_the, z_fcn_the, z_fnm_the, z_acn_the, z_ak_the, z_aa_the, z_ab_the, z_ofd_the, z_nl_the, z_par_the, z_off_the, z_the_the, z_sp_the, z_fc_the, z_mad_the, z_mk_the, z_abv_the, z_bt_the, z_rk_the, z_nc_the, z_cl_the, z_cn_the, z_cla_the, z_row_the, z_stp_the, z_beg_the, z_mst_the, z_lst_the, z_nf_mk, z_inn_mk, z_sup_mk, z_fac_mk, z_las_mk, z_lan_mk, z_fcn_mk, z_fnm_mk, z_acn_mk, z_ak_mk, z_aa_mk, z_ab_mk, z_ofd_mk, z_nl_mk, z_par_mk, z_off_mk, z_the_mk, z_sp_mk, z_fc_mk, z_mad_mk, z_mk_mk, z_abv_mk, z_bt_mk, z_rk_mk, z_nc_mk, z_cl_mk, z_cn_mk, z_cla_mk, z_row_mk, z_stp_mk, z_beg_mk, z_mst_mk, z_lst_mk, z_nf_rk, z_inn_rk, z_sup_rk, z_fac_rk, z_las_rk, z_lan_rk, z_fcn_rk, z_fnm_rk, z_acn_rk, z_ak_rk, z_aa_rk, z_ab_rk, z_ofd_rk, z_nl_rk, z_par_rk, z_off_rk, z_the_rk, z_sp_rk, z_fc_rk, z_mad_rk, z_mk_rk, z_abv_rk, z_bt_rk, z_rk_rk, z_nc_rk, z_cl_rk, z_cn_rk, z_cla_rk, z_row_rk, z_stp_rk, z_beg_rk, z_mst_rk, z_lst_rk, z_nf_mad, z_inn_mad, z_sup_mad, z_fac_mad, z_las_mad, z_lan_mad, z_fcn_mad, z_fnm_mad, z_acn_mad, z_ak_mad, z_aa_mad, z_ab_mad, z_ofd_mad, z_nl_mad, z_par_mad, z_off_mad, z_the_mad, z_sp_mad, z_fc_mad, z_mad_mad, z_mk_mad, z_abv_mad, z_bt_mad, z_rk_mad, z_nc_mad, z_cl_mad, z_cn_mad, z_cla_mad, z_row_mad, z_stp_mad, z_beg_mad, z_mst_mad, z_lst_mad]
          intro a ha
          rw [if_neg (nec a (.inl ha))]
          exact a9 a (by rw [b7]; exact ha)
        · intro a ha
          have q := old a ha
          simp only [w_done, z_nf_the, z_inn_the, z_sup_the, z_fac_the, z_las_the, z_lan_the, z_fcn_the, z_fnm_the, z_acn_the, z_ak_the, z_aa_the, z_ab_the, z_ofd_the, z_nl_the, z_par_the, z_off_the, z_the_the, z_sp_the, z_fc_the, z_mad_the, z_mk_the, z_abv_the, z_bt_the, z_rk_the, z_nc_the, z_cl_the, z_cn_the, z_cla_the, z_row_the, z_stp_the, z_beg_the, z_mst_the, z_lst_the, z_nf_mk, z_inn_mk, z_sup_mk, z_fac_mk, z_las_mk, z_lan_mk, z_fcn_mk, z_fnm_mk, z_acn_mk, z_ak_mk, z_aa_mk, z_ab_mk, z_ofd_mk, z_nl_mk, z_par_mk, z_off_mk, z_the_mk, z_sp_mk, z_fc_mk, z_mad_mk, z_mk_mk, z_abv_mk, z_bt_mk, z_rk_mk, z_nc_mk, z_cl_mk, z_cn_mk, z_cla_mk, z_row_mk, z_stp_mk, z_beg_mk, z_mst_mk, z_lst_mk, z_nf_rk, z_inn_rk, z_sup_rk, z_fac_rk, z_las_rk, z_lan_rk, z_fcn_rk, z_fnm_rk, z_acn_rk, z_ak_rk, z_aa_rk, z_ab_rk, z_ofd_rk, z_nl_rk, z_par_rk, z_off_rk, z_the_rk, z_sp_rk, z_fc_rk, z_mad_rk, z_mk_rk, z_abv_rk, z_bt_rk, z_rk_rk, z_nc_rk, z_cl_rk, z_cn_rk, z_cla_rk, z_row_rk, z_stp_rk, z_beg_rk, z_mst_rk, z_lst_rk, z_nf_mad, z_inn_mad, z_sup_mad, z_fac_mad, z_las_mad, z_lan_mad, z_fcn_mad, z_fnm_mad, z_acn_mad, z_ak_mad, z_aa_mad, z_ab_mad, z_ofd_mad, z_nl_mad, z_par_mad, z_off_mad, z_the_mad, z_sp_mad, z_fc_mad, z_mad_mad, z_mk_mad, z_abv_mad, z_bt_mad, z_rk_mad, z_nc_mad, z_cl_mad, z_cn_mad, z_cla_mad, z_row_mad, z_stp_mad, z_beg_mad, z_mst_mad, z_lst_mad]
          rw [if_neg (nec a ha)]
          exact q
        · intro a ha
          simp only [w_done, z_nf_the, z_inn_the, z_sup_the, z_fac_the, z_las_the, z_lan_the, z_fcn_the, z_fnm_the, z_acn_the, z_ak_the, z_aa_the, z_ab_the, z_ofd_the, z_nl_the, z_par_the, z_off_the, z_the_the, z_sp_the, z_fc_the, z_mad_the, z_mk_the, z_abv_the, z_bt_the, z_rk_the, z_nc_the, z_cl_the, z_cn_the, z_cla_the, z_row_the, z_stp_the, z_beg_the, z_mst_the, z_lst_the, z_nf_mk, z_inn_mk, z_sup_mk, z_fac_mk, z_las_mk, z_lan_mk, z_fcn_mk, z_fnm_mk, z_acn_mk, z_ak_mk, z_aa_mk, z_ab_mk, z_ofd_mk, z_nl_mk, z_par_mk, z_off_mk, z_the_mk, z_sp_mk, z_fc_mk, z_mad_mk, z_mk_mk, z_abv_mk, z_bt_mk, z_rk_mk, z_nc_mk, z_cl_mk, z_cn_mk, z_cla_mk, z_row_mk, z_stp_mk, z_beg_mk, z_mst_mk, z_lst_mk, z_nf_rk, z_inn_rk, z_sup_rk, z_fac_rk, z_las_rk, z_lan_rk, z_fcn_rk, z_fnm_rk, z_acn_rk, z_ak_rk, z_aa_rk, z_ab_rk, z_ofd_rk, z_nl_rk, z_par_rk, z_off_rk, z_the_rk, z_sp_rk, z_fc_rk, z_mad_rk, z_mk_rk, z_abv_rk, z_bt_rk, z_rk_rk, z_nc_rk, z_cl_rk, z_cn_rk, z_cla_rk, z_row_rk, z_stp_rk, z_beg_rk, z_mst_rk, z_lst_rk, z_nf_mad, z_inn_mad, z_sup_mad, z_fac_mad, z_las_mad, z_lan_mad, z_fcn_mad, z_fnm_mad, z_acn_mad, z_ak_mad, z_aa_mad, z_ab_mad, z_ofd_mad, z_nl_mad, z_par_mad, z_off_mad, z_the_mad, z_sp_mad, z_fc_mad, z_mad_mad, z_mk_mad, z_abv_mad, z_bt_mad, z_rk_mad, z_nc_mad, z_cl_mad, z_cn_mad, z_cla_mad, z_row_mad, z_stp_mad, z_beg_mad, z_mst_mad, z_lst_mad]
          rw [if_neg (nec a (.inr ha)), a11 a (by rw [(b9 a (nec a (.inr ha))).2.2.2.2.2]; exact ha), b7]
        · cases q
          exact ⟨rfl, by simp only [w_done, z_nf_the, z_inn_the, z_sup_the, z_fac_the, z_las_the, z_lan_the, z_fcn_the, z_fnm_the, z_acn_the, z_ak_the, z_aa_the, z_ab_the, z_ofd_the, z_nl_the, z_par_the, z_off_the, z_the_the, z_sp_the, z_fc_the, z_mad_the, z_mk_the, z_abv_the, z_bt_the, z_rk_the, z_nc_the, z_cl_the, z_cn_the, z_cla_the, z_row_the, z_stp_the, z_beg_the, z_mst_the, z_lst_the, z_nf_mk, z_inn_mk, z_sup_mk, z_fac_mk, z_las_mk, z_lan_mk, z_fcn_mk, z_fnm_mk, z_acn_mk, z_ak_mk, z_aa_mk, z_ab_mk, z_ofd_mk, z_nl_mk, z_par_mk, z_off_mk, z_the_mk, z_sp_mk, z_fc_mk, z_mad_mk, z_mk_mk, z_abv_mk, z_bt_mk, z_rk_mk, z_nc_mk, z_cl_mk, z_cn_mk, z_cla_mk, z_row_mk, z_stp_mk, z_beg_mk, z_mst_mk, z_lst_mk, z_nf_rk, z_inn_rk, z_sup_rk, z_fac_rk, z_las_rk, z_lan_rk, z_fcn_rk, z_fnm_rk, z_acn_rk, z_ak_rk, z_aa_rk, z_ab_rk, z_ofd_rk, z_nl_rk, z_par_rk, z_off_rk, z_the_rk, z_sp_rk, z_fc_rk, z_mad_rk, z_mk_rk, z_abv_rk, z_bt_rk, z_rk_rk, z_nc_rk, z_cl_rk, z_cn_rk, z_cla_rk, z_row_rk, z_stp_rk, z_beg_rk, z_mst_rk, z_lst_rk, z_nf_mad, z_inn_mad, z_sup_mad, z_fac_mad, z_las_mad, z_lan_mad, z_fcn_mad, z_fnm_mad, z_acn_mad, z_ak_mad, z_aa_mad, z_ab_mad, z_ofd_mad, z_nl_mad, z_par_mad, z_off_mad, z_the_mad, z_sp_mad, z_fc_mad, z_mad_mad, z_mk_mad, z_abv_mad, z_bt_mad, z_rk_mad, z_nc_mad, z_cl_mad, z_cn_mad, z_cla_mad, z_row_mad, z_stp_mad, z_beg_mad, z_mst_mad, z_lst_mad, if_true]⟩
      · rename_i hr
        cases h
        have oc2 := OC_stop σ1 c
        obtain ⟨c1, c2, c3, c4, c5, c6, c7, c8, c9⟩ := id oc2
        refine ⟨⟨tF_trans (tF_trans b1 a1) c1, tC_trans (tC_trans b2 a2) c2, tM_trans (tM_trans b3 a3) c3, c4.trans (a4.trans b4), c5.trans (a5.trans b5), c6.trans (a6.trans b6), ?_, ?_, ?_, ?_, ?_⟩, II_OC oc2 ht1 ⟨f, ho1⟩ h2, fun a q => (by cases q), fun q q2 => ?_⟩
        · funext a
          by_cases ha : a = c
          · simp only [w_stop, z_nf_mk, z_inn_mk, z_sup_mk, z_fac_mk, z_las_mk, z_lan_mk, z_fcn_mk, z_fnm_mk, z_acn_mk, z_ak_mk, z_aa_mk, z_ab_mk, z_ofd_mk, z_nl_mk, z_par_mk, z_off_mk, z_the_mk, z_sp_mk, z_fc_mk, z_mad_mk, z_mk_mk, z_abv_mk, z_bt_mk, z_rk_mk, z_nc_mk, z_cl_mk, z_cn_mk, z_cla_mk, z_row_mk, z_stp_mk, z_beg_mk, z_mst_mk, z_lst_mk]
            rw [if_pos ha, ha, hmk]
          · rw [(c9 a ha).2.2.2.2.2]
            exact emk a ha
        · rw [c8]
          rw [b8] at a8
          exact a8
        · intro a ha
          rw [c7]
          exact a9 a (by rw [b7]; exact ha)
        · intro a ha
          obtain ⟨q1, q2, q3, q4, q5⟩ := old a ha
          obtain ⟨p1, p2, p3, p4, p5, p6⟩ := c9 a (nec a ha)
          exact ⟨p1.trans q1, p2.trans q2, p3.trans q3, p4.trans q4, p5.trans q5⟩
        · intro a ha
          rw [c7, a11 a (by rw [(b9 a (nec a (.inr ha))).2.2.2.2.2]; exact ha), b7]
        · cases q2
          omega
theorem fd_ok : ∀ k, FSp (fd k) := by
  intro k
  induction k with
  | zero =>
    intro σ l n τ r h
    cases h
  | succ k ih =>
    intro σ l n τ r h hI hl hn
    rw [fd] at h
    cases e : tof σ 8 l n none with
    | none =>
      rw [e] at h
      cases h
      exact ⟨FR_refl _, hI, fun a q => (by cases q), fun q q2 => by cases q2; omega⟩
    | some c =>
      rw [e] at h
      rcases tof_ok hI.2.1 hn 8 l none e with q | ⟨h1, h2, f, hf⟩
      · cases q
      · dsimp only at h
        split at h
        · rename_i ht
          cases h
          exact ⟨FR_refl _, hI, fun a q => by cases q; exact ⟨ht, h1, h2⟩, fun q q2 => by cases q2⟩
        · rename_i ht
          have hc : c / 30 < z_nl σ := by have := off_lt hI.2.1 hf; omega
          obtain ⟨p1, p2, p3, p4⟩ := mkF_ok ih h hI hc hf (by simpa using ht)
          refine ⟨p1, p2, fun a q => ?_, p4⟩
          obtain ⟨rfl, q2⟩ := p3 a q
          exact ⟨q2, h1, h2⟩
