/-! PURE: what an act leaves, of the state alone. -/
def FQ (σ τ : SS) : Prop := tZ σ τ ∧ z_nl τ = z_nl σ ∧ z_par τ = z_par σ ∧ z_mk τ = z_mk σ ∧ z_row τ = z_row σ ∧ z_stp τ = z_stp σ ∧ z_lst τ = z_lst σ ∧ (∀ c, z_the σ c = true → z_the τ c = true ∧ z_sp τ c = z_sp σ c ∧ z_abv τ c = z_abv σ c)
theorem FQ_refl (σ : SS) : FQ σ σ := ⟨tZ_refl σ, rfl, rfl, rfl, rfl, rfl, rfl, fun _ h => ⟨h, rfl, rfl⟩⟩
theorem FQ_trans {σ τ υ : SS} (h : FQ σ τ) (h2 : FQ τ υ) : FQ σ υ := by
  obtain ⟨a1, a2, a3, a4, a5, a6, a7, a8⟩ := h
  obtain ⟨b1, b2, b3, b4, b5, b6, b7, b8⟩ := h2
  refine ⟨tZ_trans a1 b1, b2.trans a2, b3.trans a3, b4.trans a4, b5.trans a5, b6.trans a6, b7.trans a7, fun c hc => ?_⟩
  obtain ⟨w1, w2, w3⟩ := a8 c hc
  obtain ⟨x1, x2, x3⟩ := b8 c w1
  exact ⟨x1, x2.trans w2, x3.trans w3⟩
theorem FQ_FR {σ τ : SS} (h : FR σ τ) : FQ σ τ := by
  obtain ⟨a1, a2, a3, a4, a5, a6, a7, a8, a9, a10, a11⟩ := h
  exact ⟨⟨a1, a2, a6⟩, a4, a5, a7, a3.1, a3.2.1, a3.2.2.2.2, fun c hc => ⟨a9 c hc, (a10 c (.inl hc)).1, (a10 c (.inl hc)).2.2.1⟩⟩
theorem FQ_ent (σ : SS) (n : Nat) : FQ σ (w_ent σ n) := by
  obtain ⟨f1, f2, f3, f4, f5, f6, f7⟩ := w_ent_f σ n
  refine ⟨f5, f3, f6, ?_, ?_, ?_, ?_, fun c hc => ⟨by rw [f7]; exact hc, ?_, ?_⟩⟩ <;> simp only [w_ent, z_nf_beg, z_inn_beg, z_sup_beg, z_fac_beg, z_las_beg, z_lan_beg, z_fcn_beg, z_fnm_beg, z_acn_beg, z_ak_beg, z_aa_beg, z_ab_beg, z_ofd_beg, z_nl_beg, z_par_beg, z_off_beg, z_the_beg, z_sp_beg, z_fc_beg, z_mad_beg, z_mk_beg, z_abv_beg, z_bt_beg, z_rk_beg, z_nc_beg, z_cl_beg, z_cn_beg, z_cla_beg, z_row_beg, z_stp_beg, z_beg_beg, z_mst_beg, z_lst_beg, z_nf_mst, z_inn_mst, z_sup_mst, z_fac_mst, z_las_mst, z_lan_mst, z_fcn_mst, z_fnm_mst, z_acn_mst, z_ak_mst, z_aa_mst, z_ab_mst, z_ofd_mst, z_nl_mst, z_par_mst, z_off_mst, z_the_mst, z_sp_mst, z_fc_mst, z_mad_mst, z_mk_mst, z_abv_mst, z_bt_mst, z_rk_mst, z_nc_mst, z_cl_mst, z_cn_mst, z_cla_mst, z_row_mst, z_stp_mst, z_beg_mst, z_mst_mst, z_lst_mst]
theorem FQ_stp (σ : SS) (n : Nat) : tZ σ (w_stp σ n) := ⟨(by simp only [tF, tF, z_nf_stp, z_inn_stp, z_sup_stp, z_fac_stp, z_las_stp, z_lan_stp, z_fcn_stp, z_fnm_stp, z_acn_stp, z_ak_stp, z_aa_stp, z_ab_stp, z_ofd_stp, z_nl_stp, z_par_stp, z_off_stp, z_the_stp, z_sp_stp, z_fc_stp, z_mad_stp, z_mk_stp, z_abv_stp, z_bt_stp, z_rk_stp, z_nc_stp, z_cl_stp, z_cn_stp, z_cla_stp, z_row_stp, z_stp_stp, z_beg_stp, z_mst_stp, z_lst_stp, and_self]), (by simp only [tC, tC, z_nf_stp, z_inn_stp, z_sup_stp, z_fac_stp, z_las_stp, z_lan_stp, z_fcn_stp, z_fnm_stp, z_acn_stp, z_ak_stp, z_aa_stp, z_ab_stp, z_ofd_stp, z_nl_stp, z_par_stp, z_off_stp, z_the_stp, z_sp_stp, z_fc_stp, z_mad_stp, z_mk_stp, z_abv_stp, z_bt_stp, z_rk_stp, z_nc_stp, z_cl_stp, z_cn_stp, z_cla_stp, z_row_stp, z_stp_stp, z_beg_stp, z_mst_stp, z_lst_stp, and_self]), by simp only [z_nf_stp, z_inn_stp, z_sup_stp, z_fac_stp, z_las_stp, z_lan_stp, z_fcn_stp, z_fnm_stp, z_acn_stp, z_ak_stp, z_aa_stp, z_ab_stp, z_ofd_stp, z_nl_stp, z_par_stp, z_off_stp, z_the_stp, z_sp_stp, z_fc_stp, z_mad_stp, z_mk_stp, z_abv_stp, z_bt_stp, z_rk_stp, z_nc_stp, z_cl_stp, z_cn_stp, z_cla_stp, z_row_stp, z_stp_stp, z_beg_stp, z_mst_stp, z_lst_stp]⟩
theorem IVR_FQ {σ τ : SS} (h : IVR σ) (hq : FQ σ τ) (hI : II τ) : IVR τ := by
  obtain ⟨h1, h2, h3, h4, h5, h6⟩ := h
  obtain ⟨a1, a2, a3, a4, a5, a6, a7, a8⟩ := hq
  exact ⟨hI, IC_st a2 a1.2.1 h2, by rw [a5]; exact IR_st a1.2.1 h3, fun c => by rw [a4]; exact h4 c, by rw [a6]; exact h5, IA_st a1.1 h6⟩
theorem FOK_FQ {σ τ : SS} {φ : FRM} (hq : FQ σ τ) (h : FOK σ φ) : FOK τ φ := FOK_st hq.1 (fun c hc => (hq.2.2.2.2.2.2.2 c hc).1) hq.2.2.1 h
theorem aEnt_inv {σ : SS} {n i m : Nat} {τ : SS} {r : FRM ⊕ Nat} (hI : II σ) (hIC : IC σ) (hi : i < z_nc σ) (hm : m < 3) (h : aEnt σ n i m = (τ, r)) : FQ σ τ ∧ II τ ∧ (∀ ψ, r = .inl ψ → n < 8 ∧ FOK τ ψ ∧ f_call ψ = true ∧ f_p ψ = 0) ∧ (∀ q, r = .inr q → 1 ≤ q ∧ q ≤ 17) := by
  by_cases h8 : 8 ≤ n
  · rw [aEnt, if_pos h8] at h
    cases h
    exact ⟨FQ_refl σ, hI, fun ψ z => (by cases z), fun q z => by cases z; omega⟩
  · obtain ⟨υ, r2, e, g1, g2, g3, g4⟩ := aEnt_ok (m := m) hI hIC hi h8
    rw [aEnt, if_neg h8, e] at h
    have hq := FQ_trans (FQ_ent σ n) (FQ_FR g1)
    cases r2 with
    | inr q =>
      cases h
      exact ⟨hq, g2, fun ψ z => (by cases z), fun q z => by cases z; exact g4 _ rfl⟩
    | inl c =>
      dsimp only at h
      cases e2 : hvn υ m 13 c with
      | none =>
        rw [e2] at h
        cases h
        exact ⟨hq, g2, fun ψ z => (by cases z), fun q z => by cases z; omega⟩
      | some k =>
        rw [e2] at h
        cases h
        obtain ⟨w1, w2, w3, w4⟩ := hvn_ok g2 _ c k (g3 c rfl) rfl e2
        refine ⟨hq, g2, fun ψ z => ?_, fun q z => by cases z⟩
        cases z
        exact ⟨by omega, ⟨by rw [hq.1.2.1.1]; exact hi, g3 c rfl, w1, w2, hm, Nat.zero_le _⟩, rfl, rfl⟩
theorem aCall_inv {σ : SS} {φ : FRM} {n i b : Nat} {τ : SS} {r : FRM ⊕ Nat} (hI : II σ) (hIC : IC σ) (hO : FOK σ φ) (hi : i < z_nc σ) (hb : b < 90) (h : aCall σ φ n i b = (τ, r)) : FQ σ τ ∧ II τ ∧ (∀ ψ, r = .inl ψ → n < 8 ∧ FOK τ ψ ∧ f_call ψ = true ∧ f_p ψ = 0) ∧ (∀ q, r = .inr q → 1 ≤ q ∧ q ≤ 17) := by
  obtain ⟨f, ho, hf, hl, h240⟩ := the_off hI.2.1 hO.2.2.1
  obtain ⟨τ1, r1, e1, g1, g2, g3, g4⟩ := pfc_ok hI (show f_runs φ / 30 < z_nl σ by omega) (show b / 3 < 30 by omega)
  rw [aCall, e1] at h
  cases r1 with
  | inr q =>
    cases h
    exact ⟨FQ_FR g1, g2, fun ψ z => (by cases z), fun q z => by cases z; exact g4 _ rfl⟩
  | inl g =>
    dsimp only at h
    obtain ⟨p1, p2, p3⟩ := hIC.2 i hi
    obtain ⟨υ, r2, e2, y1, y2, y3, y4⟩ := fd_31' g2 (show z_cl σ i < z_nl τ1 by rw [g1.2.2.2.1]; exact p1) p2
    rw [e2] at h
    have hq := FQ_trans (FQ_FR g1) (FQ_FR y1)
    cases r2 with
    | inr q =>
      cases h
      exact ⟨hq, y2, fun ψ z => (by cases z), fun q z => by cases z; exact y4 _ rfl⟩
    | inl c =>
      dsimp only at h
      cases eb : z_bt υ c g with
      | false =>
        rw [eb, if_neg (by decide)] at h
        cases h
        exact ⟨hq, y2, fun ψ z => (by cases z), fun q z => by cases z; omega⟩
      | true =>
        rw [eb, if_pos rfl] at h
        have hIC2 : IC υ := IC_st hq.2.1 hq.1.2.1 hIC
        obtain ⟨k1, k2, k3, k4⟩ := aEnt_inv y2 hIC2 (by rw [hq.1.2.1.1]; exact hi) (Nat.mod_lt _ (by decide)) h
        exact ⟨FQ_trans hq k1, k2, k3, k4⟩
/-- what an act leaves of the frames in work -/
def AO (σ τ : SS) (L : List FRM) : Prop := tZ σ τ ∧ IVR τ ∧ z_stp τ = z_stp σ + 1 ∧ z_lst τ = z_lst σ ∧ z_par τ = z_par σ ∧ z_nl τ = z_nl σ ∧ (∀ ψ ∈ L, FOK τ ψ ∧ z_abv τ (f_runs ψ) = z_abv σ (f_runs ψ))
theorem IVR_stp {σ : SS} {n : Nat} (h : IVR σ) (hn : n ≤ 5000) : IVR (w_stp σ n) := by
  obtain ⟨h1, h2, h3, h4, h5, h6⟩ := h
  have sf : tF σ (w_stp σ n) := (by simp only [tF, tF, z_nf_stp, z_inn_stp, z_sup_stp, z_fac_stp, z_las_stp, z_lan_stp, z_fcn_stp, z_fnm_stp, z_acn_stp, z_ak_stp, z_aa_stp, z_ab_stp, z_ofd_stp, z_nl_stp, z_par_stp, z_off_stp, z_the_stp, z_sp_stp, z_fc_stp, z_mad_stp, z_mk_stp, z_abv_stp, z_bt_stp, z_rk_stp, z_nc_stp, z_cl_stp, z_cn_stp, z_cla_stp, z_row_stp, z_stp_stp, z_beg_stp, z_mst_stp, z_lst_stp, and_self])
  have sl : tL σ (w_stp σ n) := (by simp only [tL, tL, z_nf_stp, z_inn_stp, z_sup_stp, z_fac_stp, z_las_stp, z_lan_stp, z_fcn_stp, z_fnm_stp, z_acn_stp, z_ak_stp, z_aa_stp, z_ab_stp, z_ofd_stp, z_nl_stp, z_par_stp, z_off_stp, z_the_stp, z_sp_stp, z_fc_stp, z_mad_stp, z_mk_stp, z_abv_stp, z_bt_stp, z_rk_stp, z_nc_stp, z_cl_stp, z_cn_stp, z_cla_stp, z_row_stp, z_stp_stp, z_beg_stp, z_mst_stp, z_lst_stp, and_self])
  have sc : tC σ (w_stp σ n) := (by simp only [tC, tC, z_nf_stp, z_inn_stp, z_sup_stp, z_fac_stp, z_las_stp, z_lan_stp, z_fcn_stp, z_fnm_stp, z_acn_stp, z_ak_stp, z_aa_stp, z_ab_stp, z_ofd_stp, z_nl_stp, z_par_stp, z_off_stp, z_the_stp, z_sp_stp, z_fc_stp, z_mad_stp, z_mk_stp, z_abv_stp, z_bt_stp, z_rk_stp, z_nc_stp, z_cl_stp, z_cn_stp, z_cla_stp, z_row_stp, z_stp_stp, z_beg_stp, z_mst_stp, z_lst_stp, and_self])
  refine ⟨⟨IF_st sf h1.1, IL_st sf sl h1.2.1, IT_st (by simp only [z_nf_stp, z_inn_stp, z_sup_stp, z_fac_stp, z_las_stp, z_lan_stp, z_fcn_stp, z_fnm_stp, z_acn_stp, z_ak_stp, z_aa_stp, z_ab_stp, z_ofd_stp, z_nl_stp, z_par_stp, z_off_stp, z_the_stp, z_sp_stp, z_fc_stp, z_mad_stp, z_mk_stp, z_abv_stp, z_bt_stp, z_rk_stp, z_nc_stp, z_cl_stp, z_cn_stp, z_cla_stp, z_row_stp, z_stp_stp, z_beg_stp, z_mst_stp, z_lst_stp]) sl h1.2.2⟩, IC_st (by simp only [z_nf_stp, z_inn_stp, z_sup_stp, z_fac_stp, z_las_stp, z_lan_stp, z_fcn_stp, z_fnm_stp, z_acn_stp, z_ak_stp, z_aa_stp, z_ab_stp, z_ofd_stp, z_nl_stp, z_par_stp, z_off_stp, z_the_stp, z_sp_stp, z_fc_stp, z_mad_stp, z_mk_stp, z_abv_stp, z_bt_stp, z_rk_stp, z_nc_stp, z_cl_stp, z_cn_stp, z_cla_stp, z_row_stp, z_stp_stp, z_beg_stp, z_mst_stp, z_lst_stp]) sc h2, ?_, ?_, ?_, IA_st sf h6⟩
  · simp only [z_nf_stp, z_inn_stp, z_sup_stp, z_fac_stp, z_las_stp, z_lan_stp, z_fcn_stp, z_fnm_stp, z_acn_stp, z_ak_stp, z_aa_stp, z_ab_stp, z_ofd_stp, z_nl_stp, z_par_stp, z_off_stp, z_the_stp, z_sp_stp, z_fc_stp, z_mad_stp, z_mk_stp, z_abv_stp, z_bt_stp, z_rk_stp, z_nc_stp, z_cl_stp, z_cn_stp, z_cla_stp, z_row_stp, z_stp_stp, z_beg_stp, z_mst_stp, z_lst_stp]
    exact IR_st sc h3
  · simp only [z_nf_stp, z_inn_stp, z_sup_stp, z_fac_stp, z_las_stp, z_lan_stp, z_fcn_stp, z_fnm_stp, z_acn_stp, z_ak_stp, z_aa_stp, z_ab_stp, z_ofd_stp, z_nl_stp, z_par_stp, z_off_stp, z_the_stp, z_sp_stp, z_fc_stp, z_mad_stp, z_mk_stp, z_abv_stp, z_bt_stp, z_rk_stp, z_nc_stp, z_cl_stp, z_cn_stp, z_cla_stp, z_row_stp, z_stp_stp, z_beg_stp, z_mst_stp, z_lst_stp]
    exact h4
  · simp only [z_nf_stp, z_inn_stp, z_sup_stp, z_fac_stp, z_las_stp, z_lan_stp, z_fcn_stp, z_fnm_stp, z_acn_stp, z_ak_stp, z_aa_stp, z_ab_stp, z_ofd_stp, z_nl_stp, z_par_stp, z_off_stp, z_the_stp, z_sp_stp, z_fc_stp, z_mad_stp, z_mk_stp, z_abv_stp, z_bt_stp, z_rk_stp, z_nc_stp, z_cl_stp, z_cn_stp, z_cla_stp, z_row_stp, z_stp_stp, z_beg_stp, z_mst_stp, z_lst_stp]
    exact hn
theorem AO_stp {σ : SS} {n : Nat} {L : List FRM} (hV : IVR σ) (hn : n = z_stp σ + 1) (hs : z_stp σ < 5000) (hO : ∀ ψ ∈ L, FOK σ ψ) : AO σ (w_stp σ n) L := by
  refine ⟨FQ_stp σ n, IVR_stp hV (by omega), ?_, ?_, ?_, ?_, fun ψ hψ => ⟨FOK_st (FQ_stp σ n) (fun c hc => ?_) ?_ (hO ψ hψ), ?_⟩⟩
  · rw [← hn]; simp only [z_nf_stp, z_inn_stp, z_sup_stp, z_fac_stp, z_las_stp, z_lan_stp, z_fcn_stp, z_fnm_stp, z_acn_stp, z_ak_stp, z_aa_stp, z_ab_stp, z_ofd_stp, z_nl_stp, z_par_stp, z_off_stp, z_the_stp, z_sp_stp, z_fc_stp, z_mad_stp, z_mk_stp, z_abv_stp, z_bt_stp, z_rk_stp, z_nc_stp, z_cl_stp, z_cn_stp, z_cla_stp, z_row_stp, z_stp_stp, z_beg_stp, z_mst_stp, z_lst_stp]
  · simp only [z_nf_stp, z_inn_stp, z_sup_stp, z_fac_stp, z_las_stp, z_lan_stp, z_fcn_stp, z_fnm_stp, z_acn_stp, z_ak_stp, z_aa_stp, z_ab_stp, z_ofd_stp, z_nl_stp, z_par_stp, z_off_stp, z_the_stp, z_sp_stp, z_fc_stp, z_mad_stp, z_mk_stp, z_abv_stp, z_bt_stp, z_rk_stp, z_nc_stp, z_cl_stp, z_cn_stp, z_cla_stp, z_row_stp, z_stp_stp, z_beg_stp, z_mst_stp, z_lst_stp]
  · simp only [z_nf_stp, z_inn_stp, z_sup_stp, z_fac_stp, z_las_stp, z_lan_stp, z_fcn_stp, z_fnm_stp, z_acn_stp, z_ak_stp, z_aa_stp, z_ab_stp, z_ofd_stp, z_nl_stp, z_par_stp, z_off_stp, z_the_stp, z_sp_stp, z_fc_stp, z_mad_stp, z_mk_stp, z_abv_stp, z_bt_stp, z_rk_stp, z_nc_stp, z_cl_stp, z_cn_stp, z_cla_stp, z_row_stp, z_stp_stp, z_beg_stp, z_mst_stp, z_lst_stp]
  · simp only [z_nf_stp, z_inn_stp, z_sup_stp, z_fac_stp, z_las_stp, z_lan_stp, z_fcn_stp, z_fnm_stp, z_acn_stp, z_ak_stp, z_aa_stp, z_ab_stp, z_ofd_stp, z_nl_stp, z_par_stp, z_off_stp, z_the_stp, z_sp_stp, z_fc_stp, z_mad_stp, z_mk_stp, z_abv_stp, z_bt_stp, z_rk_stp, z_nc_stp, z_cl_stp, z_cn_stp, z_cla_stp, z_row_stp, z_stp_stp, z_beg_stp, z_mst_stp, z_lst_stp]
  · simp only [z_nf_stp, z_inn_stp, z_sup_stp, z_fac_stp, z_las_stp, z_lan_stp, z_fcn_stp, z_fnm_stp, z_acn_stp, z_ak_stp, z_aa_stp, z_ab_stp, z_ofd_stp, z_nl_stp, z_par_stp, z_off_stp, z_the_stp, z_sp_stp, z_fc_stp, z_mad_stp, z_mk_stp, z_abv_stp, z_bt_stp, z_rk_stp, z_nc_stp, z_cl_stp, z_cn_stp, z_cla_stp, z_row_stp, z_stp_stp, z_beg_stp, z_mst_stp, z_lst_stp]; exact hc
  · simp only [z_nf_stp, z_inn_stp, z_sup_stp, z_fac_stp, z_las_stp, z_lan_stp, z_fcn_stp, z_fnm_stp, z_acn_stp, z_ak_stp, z_aa_stp, z_ab_stp, z_ofd_stp, z_nl_stp, z_par_stp, z_off_stp, z_the_stp, z_sp_stp, z_fc_stp, z_mad_stp, z_mk_stp, z_abv_stp, z_bt_stp, z_rk_stp, z_nc_stp, z_cl_stp, z_cn_stp, z_cla_stp, z_row_stp, z_stp_stp, z_beg_stp, z_mst_stp, z_lst_stp]
  · simp only [z_nf_stp, z_inn_stp, z_sup_stp, z_fac_stp, z_las_stp, z_lan_stp, z_fcn_stp, z_fnm_stp, z_acn_stp, z_ak_stp, z_aa_stp, z_ab_stp, z_ofd_stp, z_nl_stp, z_par_stp, z_off_stp, z_the_stp, z_sp_stp, z_fc_stp, z_mad_stp, z_mk_stp, z_abv_stp, z_bt_stp, z_rk_stp, z_nc_stp, z_cl_stp, z_cn_stp, z_cla_stp, z_row_stp, z_stp_stp, z_beg_stp, z_mst_stp, z_lst_stp]
theorem AO_0 {σ : SS} {L : List FRM} (hV : IVR σ) (hs : z_stp σ < 5000) (hO : ∀ ψ ∈ L, FOK σ ψ) : AO σ (nxt σ) L := AO_stp hV rfl hs hO
theorem AO_FQ {σ σ1 τ : SS} {L : List FRM} (h0 : AO σ σ1 L) (hq : FQ σ1 τ) (hI : II τ) : AO σ τ L := by
  obtain ⟨a1, a2, a3, a4, a5, a6, a7⟩ := h0
  refine ⟨tZ_trans a1 hq.1, IVR_FQ a2 hq hI, ?_, ?_, ?_, ?_, fun ψ hψ => ⟨FOK_FQ hq (a7 ψ hψ).1, ?_⟩⟩
  · rw [hq.2.2.2.2.2.1]; exact a3
  · rw [hq.2.2.2.2.2.2.1]; exact a4
  · rw [hq.2.2.1]; exact a5
  · rw [hq.2.1]; exact a6
  · rw [(hq.2.2.2.2.2.2.2 _ (a7 ψ hψ).1.2.2.1).2.2]; exact (a7 ψ hψ).2
theorem cell_f (σ : SS) (k : Nat) (x : Int64) : tL σ (w_cell σ k x) ∧ z_stp (w_cell σ k x) = z_stp σ ∧ z_lst (w_cell σ k x) = z_lst σ ∧ z_row (w_cell σ k x) = (fun j => if j = k then x else z_row σ j) := by
  refine ⟨(by simp only [tL, w_cell, z_nf_row, z_inn_row, z_sup_row, z_fac_row, z_las_row, z_lan_row, z_fcn_row, z_fnm_row, z_acn_row, z_ak_row, z_aa_row, z_ab_row, z_ofd_row, z_nl_row, z_par_row, z_off_row, z_the_row, z_sp_row, z_fc_row, z_mad_row, z_mk_row, z_abv_row, z_bt_row, z_rk_row, z_nc_row, z_cl_row, z_cn_row, z_cla_row, z_row_row, z_stp_row, z_beg_row, z_mst_row, z_lst_row, and_self]), ?_, ?_, ?_⟩ <;> simp only [w_cell, z_nf_row, z_inn_row, z_sup_row, z_fac_row, z_las_row, z_lan_row, z_fcn_row, z_fnm_row, z_acn_row, z_ak_row, z_aa_row, z_ab_row, z_ofd_row, z_nl_row, z_par_row, z_off_row, z_the_row, z_sp_row, z_fc_row, z_mad_row, z_mk_row, z_abv_row, z_bt_row, z_rk_row, z_nc_row, z_cl_row, z_cn_row, z_cla_row, z_row_row, z_stp_row, z_beg_row, z_mst_row, z_lst_row]
theorem AO_cell {σ σ1 : SS} {L : List FRM} {k : Nat} {x : Int64} (h0 : AO σ σ1 L) (hx : z_cla σ1 (k / 4) = 3 → gdd x) : AO σ (w_cell σ1 k x) L := by
  obtain ⟨a1, ⟨h1, h2, h3, h4, h5, h6⟩, a3, a4, a5, a6, a7⟩ := h0
  have hz := tZ_cell σ1 k x
  obtain ⟨sl, e1, e2, e3⟩ := cell_f σ1 k x
  refine ⟨tZ_trans a1 hz, ⟨⟨IF_st hz.1 h1.1, IL_st hz.1 sl h1.2.1, IT_st hz.1.2.2.2.2.2.2.1 sl h1.2.2⟩, IC_st sl.1 hz.2.1 h2, ?_, ?_, ?_, IA_st hz.1 h6⟩, ?_, ?_, ?_, ?_, fun ψ hψ => ⟨FOK_st hz (fun c hc => by rw [sl.2.2.2.1]; exact hc) sl.2.1 (a7 ψ hψ).1, ?_⟩⟩
  · refine IR_st (σ := σ1) hz.2.1 ?_
    rw [e3]
    intro j hj hn hc
    dsimp only
    by_cases e : j = k
    · rw [if_pos e]
      exact hx (by rw [← e]; exact hc)
    · rw [if_neg e]
      exact h3 j hj hn hc
  · rw [sl.2.2.2.2.2.2.2.1]; exact h4
  · rw [e1]; exact h5
  · rw [e1]; exact a3
  · rw [e2]; exact a4
  · rw [sl.2.1]; exact a5
  · rw [sl.1]; exact a6
  · rw [sl.2.2.2.2.2.2.2.2.1]; exact (a7 ψ hψ).2
theorem hdAny_m {σ : SS} {k : Nat} : ∀ (L : List FRM), hdAny σ k L = false → ∀ ψ ∈ L, lbe σ 9 (f_held ψ / 30) k = false := by
  intro L
  induction L with
  | nil => intro _ ψ h; cases h
  | cons φ t ih =>
    intro h ψ hψ
    rw [hdAny, Bool.or_eq_false_iff] at h
    rcases List.mem_cons.mp hψ with rfl | h'
    · exact h.1
    · exact ih h.2 ψ h'
theorem let_f (σ : SS) (k : Nat) : z_abv (w_let σ k) = z_abv σ ∧ z_the (w_let σ k) = (fun c => z_the σ c && !lbe σ 9 (c / 30) k) := by
  constructor <;> simp only [w_let, z_nf_the, z_inn_the, z_sup_the, z_fac_the, z_las_the, z_lan_the, z_fcn_the, z_fnm_the, z_acn_the, z_ak_the, z_aa_the, z_ab_the, z_ofd_the, z_nl_the, z_par_the, z_off_the, z_the_the, z_sp_the, z_fc_the, z_mad_the, z_mk_the, z_abv_the, z_bt_the, z_rk_the, z_nc_the, z_cl_the, z_cn_the, z_cla_the, z_row_the, z_stp_the, z_beg_the, z_mst_the, z_lst_the]
theorem AO_let {σ σ1 : SS} {L : List FRM} {k : Nat} (h0 : AO σ σ1 L) (hh : hdAny σ1 k L = false) : AO σ (w_let σ1 k) L := by
  obtain ⟨a1, ⟨h1, h2, h3, h4, h5, h6⟩, a3, a4, a5, a6, a7⟩ := h0
  have hf := FR0_let σ1 k
  have hz := tZ_FR0 hf
  obtain ⟨b1, b2, b3, b4, b5, b6, b7⟩ := hf
  obtain ⟨eabv, ethe⟩ := let_f σ1 k
  refine ⟨tZ_trans a1 hz, ⟨II_let h1 k, IC_st b4 b2 h2, ?_, ?_, ?_, IA_st b1 h6⟩, ?_, ?_, ?_, ?_, fun ψ hψ => ⟨?_, ?_⟩⟩
  · rw [b3.1]; exact IR_st b2 h3
  · rw [b7]; exact h4
  · rw [b3.2.1]; exact h5
  · rw [b3.2.1]; exact a3
  · rw [b3.2.2.2.2]; exact a4
  · rw [b5]; exact a5
  · rw [b4]; exact a6
  · obtain ⟨q1, q2, q3, q4, q5, q6⟩ := (a7 ψ hψ).1
    have n1 := hdAny_m L hh ψ hψ
    have n2 : lbe σ1 9 (f_runs ψ / 30) k = false := by
      cases e : lbe σ1 9 (f_runs ψ / 30) k with
      | false => rfl
      | true =>
        rw [lbe_trans h1.2.1 e _ q4] at n1
        cases n1
    refine ⟨by rw [b2.1]; exact q1, ?_, ?_, by rw [lbe_let]; exact q4, q5, by rw [f_cnt_st hz]; exact q6⟩
    · rw [ethe]
      dsimp only
      rw [n1, q2]
      rfl
    · rw [ethe]
      dsimp only
      rw [n2, q3]
      rfl
  · rw [eabv]; exact (a7 ψ hψ).2
theorem aRow_inv {σ : SS} {φ : FRM} {v v' : Int64} {k a b : Int32} {τ : SS} {r : Option (FRM ⊕ Nat)} (hR : IR σ (z_row σ)) (hIC : IC σ) (hc : f_ctr φ < z_nc σ) (h : aRow σ φ v k a b = (τ, v', r)) : (τ = σ ∨ ∃ j x, τ = w_cell σ j x ∧ (z_cla σ (j / 4) = 3 → gdd x)) ∧ (∀ ψ, r ≠ some (.inl ψ)) ∧ (∀ q, r = some (.inr q) → 1 ≤ q ∧ q ≤ 17) := by
  unfold aRow at h
  by_cases e1 : z_cla σ (f_ctr φ) = z_lan σ (f_file σ φ)
  · rw [if_neg (fun z => z e1)] at h
    by_cases e2 : a < 0 ∨ 4 ≤ a
    · rw [if_pos e2] at h
      cases h
      exact ⟨.inl rfl, fun ψ z => (by cases z), fun q z => by cases z; omega⟩
    · rw [if_neg e2] at h
      have h0 : ¬ a < 0 := fun z => e2 (.inl z)
      obtain ⟨n, hn, rfl⟩ := nI_of h0
      have h4 : n < 4 := by
        have : ¬ (4 : Int32) ≤ nI n := fun z => e2 (.inr z)
        rw [xle_32, nI_toInt hn] at this
        have e4 : (4 : Int32).toInt = 4 := rfl
        omega
      have ecl : (nI n).toNatClampNeg = n := nI_clamp hn
      simp only [ecl] at h
      have hce : (f_ctr φ * 4 + n) / 4 = f_ctr φ := by omega
      have h10 := hIC.1
      have hg : z_cla σ (f_ctr φ) = 3 → gdd (z_row σ (f_ctr φ * 4 + n)) := fun z => hR _ (by omega) (by rw [hce]; exact hc) (by rw [hce]; exact z)
      by_cases k0 : k = 0
      · rw [if_pos k0] at h
        cases h
        refine ⟨.inr ⟨_, _, rfl, fun z => ?_⟩, fun ψ z => (by cases z), fun q z => by cases z⟩
        rw [hce] at z
        rw [rAdd, if_pos (e1.symm.trans z)]
        exact gdd_add (hg z) b
      · rw [if_neg k0] at h
        by_cases k1 : k = 1
        · rw [if_pos k1] at h
          cases h
          exact ⟨.inl rfl, fun ψ z => (by cases z), fun q z => by cases z⟩
        · rw [if_neg k1] at h
          by_cases k2 : k = 2
          · rw [if_pos k2] at h
            cases h
            refine ⟨.inr ⟨_, _, rfl, fun z => ?_⟩, fun ψ z => (by cases z), fun q z => by cases z⟩
            rw [hce] at z
            rw [rPut, if_pos (e1.symm.trans z)]
            exact gdd_l2d v
          · rw [if_neg k2] at h
            split at h <;> cases h
            · exact ⟨.inl rfl, fun ψ z => (by cases z), fun q z => by cases z; omega⟩
            · exact ⟨.inl rfl, fun ψ z => (by cases z), fun q z => by cases z⟩
  · rw [if_pos e1] at h
    cases h
    exact ⟨.inl rfl, fun ψ z => (by cases z), fun q z => by cases z; omega⟩
theorem f_act {σ : SS} (hA : IA σ) {φ : FRM} (hm : f_m φ < 3) (hp : f_p φ < f_cnt σ φ) : actok (f_kind σ φ (f_p φ)) (z_aa σ (f_file σ φ) (f_m φ * 5 + f_p φ)) (z_ab σ (f_file σ φ) (f_m φ * 5 + f_p φ)) := hA _ _ _ hm hp
theorem nI_lit : (4 : Int32) = nI 4 ∧ (5 : Int32) = nI 5 ∧ (6 : Int32) = nI 6 ∧ (7 : Int32) = nI 7 ∧ (8 : Int32) = nI 8 ∧ (9 : Int32) = nI 9 ∧ (10 : Int32) = nI 10 ∧ (11 : Int32) = nI 11 := ⟨rfl, rfl, rfl, rfl, rfl, rfl, rfl, rfl⟩
/-- what is asked of the method that an act begins -/
def PO (σ τ : SS) (φ ψ : FRM) (n : Nat) : Prop := FOK τ ψ ∧ f_p ψ = 0 ∧ (f_call ψ = true ∧ n < 8 ∨ f_call ψ = false ∧ z_abv τ (f_runs ψ) < z_abv τ (f_runs φ) ∧ f_held ψ = f_held φ) ∧ (f_kind σ φ (f_p φ) = 5 ∨ f_kind σ φ (f_p φ) = 9)
theorem aAct_inv {σ : SS} {φ : FRM} {v v' : Int64} {L : List FRM} {τ : SS} {r : Option (FRM ⊕ Nat)} (hV : IVR σ) (hs : z_stp σ < 5000) (hO : ∀ ψ ∈ L, FOK σ ψ) (hφ : φ ∈ L) (hp : f_p φ < f_cnt σ φ) (h : aAct σ φ v L = (τ, v', r)) :
    AO σ τ L ∧ (∀ ψ, r = some (.inl ψ) → PO σ τ φ ψ (ncall L)) ∧ (∀ q, r = some (.inr q) → 1 ≤ q ∧ q < 100 ∧ ¬ f_kind σ φ (f_p φ) = 11) := by
  have hOφ := hO φ hφ
  have h0 := AO_0 hV hs hO
  have hV1 := h0.2.1
  have hO1 := (h0.2.2.2.2.2.2 φ hφ).1
  have hA := f_act hV.2.2.2.2.2 hOφ.2.2.2.2.1 hp
  obtain ⟨ak, a67, a8, a5⟩ := hA
  unfold aAct at h
  generalize nxt σ = σ1 at h h0 hV1 hO1
  dsimp only at h
  have fnd : ∀ n, n < 30 → ∃ υ r2, fd 31 σ1 (f_runs φ / 30) n = some (υ, r2) ∧ AO σ υ L ∧ (∀ q, r2 = .inr q → 1 ≤ q ∧ q ≤ 17) := by
    intro n hn
    obtain ⟨f, ho, hf, hl, h240⟩ := the_off hV1.1.2.1 hO1.2.2.1
    obtain ⟨υ, r2, e, g1, g2, g3, g4⟩ := fd_31' hV1.1 (show f_runs φ / 30 < z_nl σ1 by omega) hn
    exact ⟨υ, r2, e, AO_FQ h0 (FQ_FR g1) g2, g4⟩
  by_cases k4 : f_kind σ φ (f_p φ) = 4
  · rw [if_pos k4] at h
    cases h
    exact ⟨h0, fun ψ z => (by cases z), fun q z => by cases z⟩
  · rw [if_neg k4] at h
    by_cases k5 : f_kind σ φ (f_p φ) = 5
    · rw [if_pos k5] at h
      have n11 : ¬ f_kind σ φ (f_p φ) = 11 := by rw [k5]; decide
      split at h
      · cases h
        exact ⟨h0, fun ψ z => (by cases z), fun q z => by cases z; exact ⟨by omega, by omega, n11⟩⟩
      · rename_i hb
        obtain ⟨b, hb9, eb⟩ := vp_in_of (a5 k5) (by decide)
        rw [eb, nI_clamp (by omega)] at h
        have ha0 : ¬ z_aa σ (f_file σ φ) (f_m φ * 5 + f_p φ) < 0 := fun z => hb (.inl z)
        obtain ⟨i, hi, ei⟩ := nI_of ha0
        rw [ei, nI_clamp hi] at h
        have hnc := hV1.2.1.1
        have hi2 : i < z_nc σ1 := by
          have : ¬ nI (z_nc σ1) ≤ nI i := fun z => hb (.inr (by rw [ei]; exact z))
          rw [xle_32, nI_toInt hi, nI_toInt (by omega)] at this
          omega
        cases e : aCall σ1 φ (ncall L) i b with
        | mk υ x =>
          rw [e] at h
          cases h
          obtain ⟨w1, w2, w3, w4⟩ := aCall_inv hV1.1 hV1.2.1 hO1 hi2 hb9 e
          refine ⟨AO_FQ h0 w1 w2, fun ψ z => ?_, fun q z => ?_⟩
          · cases z
            obtain ⟨y1, y2, y3, y4⟩ := w3 _ rfl
            exact ⟨y2, y4, .inl ⟨y3, y1⟩, .inl k5⟩
          · cases z
            have := w4 _ rfl
            exact ⟨this.1, by omega, n11⟩
    · rw [if_neg k5] at h
      by_cases k6 : f_kind σ φ (f_p φ) = 6
      · rw [if_pos k6] at h
        have n11 : ¬ f_kind σ φ (f_p φ) = 11 := by rw [k6]; decide
        obtain ⟨n, hn, en⟩ := vp_in_of (a67 (.inl k6)) (by decide)
        rw [en, nI_clamp (by omega)] at h
        obtain ⟨υ, r2, e, g1, g2⟩ := fnd n hn
        rw [e] at h
        cases r2 with
        | inr q =>
          cases h
          have := g2 _ rfl
          exact ⟨g1, fun ψ z => (by cases z), fun q z => by cases z; exact ⟨this.1, by omega, n11⟩⟩
        | inl c =>
          cases h
          exact ⟨g1, fun ψ z => (by cases z), fun q z => by cases z⟩
      · rw [if_neg k6] at h
        by_cases k7 : f_kind σ φ (f_p φ) = 7
        · rw [if_pos k7] at h
          have n11 : ¬ f_kind σ φ (f_p φ) = 11 := by rw [k7]; decide
          obtain ⟨n, hn, en⟩ := vp_in_of (a67 (.inr k7)) (by decide)
          rw [en, nI_clamp (by omega)] at h
          obtain ⟨υ, r2, e, g1, g2⟩ := fnd n hn
          rw [e] at h
          cases r2 with
          | inr q =>
            cases h
            have := g2 _ rfl
            exact ⟨g1, fun ψ z => (by cases z), fun q z => by cases z; exact ⟨this.1, by omega, n11⟩⟩
          | inl c =>
            dsimp only at h
            split at h <;> cases h
            · exact ⟨g1, fun ψ z => (by cases z), fun q z => by cases z⟩
            · exact ⟨g1, fun ψ z => (by cases z), fun q z => by cases z; exact ⟨by omega, by omega, n11⟩⟩
        · rw [if_neg k7] at h
          by_cases k8 : f_kind σ φ (f_p φ) = 8
          · rw [if_pos k8] at h
            have n11 : ¬ f_kind σ φ (f_p φ) = 11 := by rw [k8]; decide
            obtain ⟨n, hn, en⟩ := vp_in_of (a8 k8) (by decide)
            rw [en, nI_clamp (by omega)] at h
            cases h
            exact ⟨h0, fun ψ z => (by cases z), fun q z => by cases z; exact ⟨by omega, by omega, n11⟩⟩
          · rw [if_neg k8] at h
            by_cases k9 : f_kind σ φ (f_p φ) = 9
            · rw [if_pos k9] at h
              have n11 : ¬ f_kind σ φ (f_p φ) = 11 := by rw [k9]; decide
              cases e : hvO σ1 (f_m φ) (z_sp σ1 (f_runs φ)) with
              | none =>
                rw [e] at h
                cases h
                exact ⟨h0, fun ψ z => (by cases z), fun q z => by cases z; exact ⟨by omega, by omega, n11⟩⟩
              | some k =>
                rw [e] at h
                cases h
                refine ⟨h0, fun ψ z => ?_, fun q z => by cases z⟩
                cases z
                cases es : z_sp τ (f_runs φ) with
                | none =>
                  rw [es] at e
                  cases e
                | some s =>
                  rw [es] at e
                  obtain ⟨t1, t2⟩ := IT_sp hV1.1.2.2 hO1.2.2.1 es
                  obtain ⟨w1, w2, w3, w4⟩ := hvn_ok hV1.1 _ s k t1 rfl e
                  have hl := ((hV1.1.2.2 _ hO1.2.2.1).1 s (.inl es)).2.2
                  exact ⟨⟨hO1.1, hO1.2.1, w1, lbe_trans hV1.1.2.1 w2 _ (lbe_trans hV1.1.2.1 hl _ hO1.2.2.2.1), hO1.2.2.2.2.1, Nat.zero_le _⟩, rfl, .inr ⟨rfl, show z_abv _ k < _ by omega, rfl⟩, .inr k9⟩
            · rw [if_neg k9] at h
              by_cases k10 : f_kind σ φ (f_p φ) = 10
              · rw [if_pos k10] at h
                have n11 : ¬ f_kind σ φ (f_p φ) = 11 := by rw [k10]; decide
                split at h
                · cases h
                  exact ⟨h0, fun ψ z => (by cases z), fun q z => by cases z; exact ⟨by omega, by omega, n11⟩⟩
                · split at h
                  · cases h
                    exact ⟨h0, fun ψ z => (by cases z), fun q z => by cases z; exact ⟨by omega, by omega, n11⟩⟩
                  · rename_i hh
                    cases h
                    exact ⟨AO_let h0 (by simpa using hh), fun ψ z => (by cases z), fun q z => by cases z⟩
              · rw [if_neg k10] at h
                by_cases k11 : f_kind σ φ (f_p φ) = 11
                · rw [if_pos k11] at h
                  cases h
                  exact ⟨h0, fun ψ z => (by cases z), fun q z => by cases z⟩
                · rw [if_neg k11] at h
                  obtain ⟨w1, w2, w3⟩ := aRow_inv hV1.2.2.1 hV1.2.1 hO1.1 h
                  refine ⟨?_, fun ψ z => absurd z (w2 ψ), fun q z => ⟨(w3 q z).1, by have := (w3 q z).2; omega, k11⟩⟩
                  rcases w1 with w1 | ⟨j, x, w1, hx⟩
                  · rw [w1]; exact h0
                  · rw [w1]; exact AO_cell h0 hx
