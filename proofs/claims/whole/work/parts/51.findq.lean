/-! PURE: a making keeps what is known of classes. -/
def FSp (fnd : FND) : Prop := ∀ σ l n τ r, fnd σ l n = some (τ, r) → II σ → l < z_nl σ → n < 30 → FR σ τ ∧ II τ ∧ (∀ c, r = .inl c → z_the τ c = true ∧ c % 30 = n ∧ lbe σ 9 l (c / 30) = true) ∧ (∀ q, r = .inr q → 1 ≤ q ∧ q ≤ 17)
def UPj (σ : SS) (c jn u : Nat) : Prop := z_sp σ c = some u ∨ ∃ j, j < jn ∧ z_fc σ c j = u
def MK (σ : SS) (c jn : Nat) : Prop := z_mk σ c = true ∧ z_the σ c = false ∧ (∀ u, UPj σ c jn u → z_the σ u = true ∧ lbe σ 9 (c / 30) (u / 30) = true) ∧ (∀ d, z_bt σ c d = true ↔ d = c ∨ ∃ u, UPj σ c jn u ∧ z_bt σ u d = true) ∧ z_abv σ c = (match z_sp σ c with
  | none => 0
  | some s => z_abv σ s + 1) ∧ z_abv σ c ≤ 12
/-- but for class c, which isn't there, nothing is another -/
def OC (σ τ : SS) (c : Nat) : Prop := tF σ τ ∧ tC σ τ ∧ tM σ τ ∧ z_nl τ = z_nl σ ∧ z_par τ = z_par σ ∧ z_off τ = z_off σ ∧ z_the τ = z_the σ ∧ z_mad τ = z_mad σ ∧ (∀ a, ¬ a = c → z_sp τ a = z_sp σ a ∧ z_fc τ a = z_fc σ a ∧ z_abv τ a = z_abv σ a ∧ z_bt τ a = z_bt σ a ∧ z_rk τ a = z_rk σ a ∧ z_mk τ a = z_mk σ a)
theorem OC_start (σ : SS) (c : Nat) : OC σ (w_start σ c) c := by
  refine ⟨(by simp only [tF, w_start, z_nf_mk, z_inn_mk, z_sup_mk, z_fac_mk, z_las_mk, z_lan_mk, z_fcn_mk, z_fnm_mk, z_acn_mk, z_ak_mk, z_aa_mk, z_ab_mk, z_ofd_mk, z_nl_mk, z_par_mk, z_off_mk, z_the_mk, z_sp_mk, z_fc_mk, z_mad_mk, z_mk_mk, z_abv_mk, z_bt_mk, z_rk_mk, z_nc_mk, z_cl_mk, z_cn_mk, z_cla_mk, z_row_mk, z_stp_mk, z_beg_mk, z_mst_mk, z_lst_mk, z_nf_sp, z_inn_sp, z_sup_sp, z_fac_sp, z_las_sp, z_lan_sp, z_fcn_sp, z_fnm_sp, z_acn_sp, z_ak_sp, z_aa_sp, z_ab_sp, z_ofd_sp, z_nl_sp, z_par_sp, z_off_sp, z_the_sp, z_sp_sp, z_fc_sp, z_mad_sp, z_mk_sp, z_abv_sp, z_bt_sp, z_rk_sp, z_nc_sp, z_cl_sp, z_cn_sp, z_cla_sp, z_row_sp, z_stp_sp, z_beg_sp, z_mst_sp, z_lst_sp, z_nf_abv, z_inn_abv, z_sup_abv, z_fac_abv, z_las_abv, z_lan_abv, z_fcn_abv, z_fnm_abv, z_acn_abv, z_ak_abv, z_aa_abv, z_ab_abv, z_ofd_abv, z_nl_abv, z_par_abv, z_off_abv, z_the_abv, z_sp_abv, z_fc_abv, z_mad_abv, z_mk_abv, z_abv_abv, z_bt_abv, z_rk_abv, z_nc_abv, z_cl_abv, z_cn_abv, z_cla_abv, z_row_abv, z_stp_abv, z_beg_abv, z_mst_abv, z_lst_abv, z_nf_bt, z_inn_bt, z_sup_bt, z_fac_bt, z_las_bt, z_lan_bt, z_fcn_bt, z_fnm_bt, z_acn_bt, z_ak_bt, z_aa_bt, z_ab_bt, z_ofd_bt, z_nl_bt, z_par_bt, z_off_bt, z_the_bt, z_sp_bt, z_fc_bt, z_mad_bt, z_mk_bt, z_abv_bt, z_bt_bt, z_rk_bt, z_nc_bt, z_cl_bt, z_cn_bt, z_cla_bt, z_row_bt, z_stp_bt, z_beg_bt, z_mst_bt, z_lst_bt, and_self]), (by simp only [tC, w_start, z_nf_mk, z_inn_mk, z_sup_mk, z_fac_mk, z_las_mk, z_lan_mk, z_fcn_mk, z_fnm_mk, z_acn_mk, z_ak_mk, z_aa_mk, z_ab_mk, z_ofd_mk, z_nl_mk, z_par_mk, z_off_mk, z_the_mk, z_sp_mk, z_fc_mk, z_mad_mk, z_mk_mk, z_abv_mk, z_bt_mk, z_rk_mk, z_nc_mk, z_cl_mk, z_cn_mk, z_cla_mk, z_row_mk, z_stp_mk, z_beg_mk, z_mst_mk, z_lst_mk, z_nf_sp, z_inn_sp, z_sup_sp, z_fac_sp, z_las_sp, z_lan_sp, z_fcn_sp, z_fnm_sp, z_acn_sp, z_ak_sp, z_aa_sp, z_ab_sp, z_ofd_sp, z_nl_sp, z_par_sp, z_off_sp, z_the_sp, z_sp_sp, z_fc_sp, z_mad_sp, z_mk_sp, z_abv_sp, z_bt_sp, z_rk_sp, z_nc_sp, z_cl_sp, z_cn_sp, z_cla_sp, z_row_sp, z_stp_sp, z_beg_sp, z_mst_sp, z_lst_sp, z_nf_abv, z_inn_abv, z_sup_abv, z_fac_abv, z_las_abv, z_lan_abv, z_fcn_abv, z_fnm_abv, z_acn_abv, z_ak_abv, z_aa_abv, z_ab_abv, z_ofd_abv, z_nl_abv, z_par_abv, z_off_abv, z_the_abv, z_sp_abv, z_fc_abv, z_mad_abv, z_mk_abv, z_abv_abv, z_bt_abv, z_rk_abv, z_nc_abv, z_cl_abv, z_cn_abv, z_cla_abv, z_row_abv, z_stp_abv, z_beg_abv, z_mst_abv, z_lst_abv, z_nf_bt, z_inn_bt, z_sup_bt, z_fac_bt, z_las_bt, z_lan_bt, z_fcn_bt, z_fnm_bt, z_acn_bt, z_ak_bt, z_aa_bt, z_ab_bt, z_ofd_bt, z_nl_bt, z_par_bt, z_off_bt, z_the_bt, z_sp_bt, z_fc_bt, z_mad_bt, z_mk_bt, z_abv_bt, z_bt_bt, z_rk_bt, z_nc_bt, z_cl_bt, z_cn_bt, z_cla_bt, z_row_bt, z_stp_bt, z_beg_bt, z_mst_bt, z_lst_bt, and_self]), (by simp only [tM, w_start, z_nf_mk, z_inn_mk, z_sup_mk, z_fac_mk, z_las_mk, z_lan_mk, z_fcn_mk, z_fnm_mk, z_acn_mk, z_ak_mk, z_aa_mk, z_ab_mk, z_ofd_mk, z_nl_mk, z_par_mk, z_off_mk, z_the_mk, z_sp_mk, z_fc_mk, z_mad_mk, z_mk_mk, z_abv_mk, z_bt_mk, z_rk_mk, z_nc_mk, z_cl_mk, z_cn_mk, z_cla_mk, z_row_mk, z_stp_mk, z_beg_mk, z_mst_mk, z_lst_mk, z_nf_sp, z_inn_sp, z_sup_sp, z_fac_sp, z_las_sp, z_lan_sp, z_fcn_sp, z_fnm_sp, z_acn_sp, z_ak_sp, z_aa_sp, z_ab_sp, z_ofd_sp, z_nl_sp, z_par_sp, z_off_sp, z_the_sp, z_sp_sp, z_fc_sp, z_mad_sp, z_mk_sp, z_abv_sp, z_bt_sp, z_rk_sp, z_nc_sp, z_cl_sp, z_cn_sp, z_cla_sp, z_row_sp, z_stp_sp, z_beg_sp, z_mst_sp, z_lst_sp, z_nf_abv, z_inn_abv, z_sup_abv, z_fac_abv, z_las_abv, z_lan_abv, z_fcn_abv, z_fnm_abv, z_acn_abv, z_ak_abv, z_aa_abv, z_ab_abv, z_ofd_abv, z_nl_abv, z_par_abv, z_off_abv, z_the_abv, z_sp_abv, z_fc_abv, z_mad_abv, z_mk_abv, z_abv_abv, z_bt_abv, z_rk_abv, z_nc_abv, z_cl_abv, z_cn_abv, z_cla_abv, z_row_abv, z_stp_abv, z_beg_abv, z_mst_abv, z_lst_abv, z_nf_bt, z_inn_bt, z_sup_bt, z_fac_bt, z_las_bt, z_lan_bt, z_fcn_bt, z_fnm_bt, z_acn_bt, z_ak_bt, z_aa_bt, z_ab_bt, z_ofd_bt, z_nl_bt, z_par_bt, z_off_bt, z_the_bt, z_sp_bt, z_fc_bt, z_mad_bt, z_mk_bt, z_abv_bt, z_bt_bt, z_rk_bt, z_nc_bt, z_cl_bt, z_cn_bt, z_cla_bt, z_row_bt, z_stp_bt, z_beg_bt, z_mst_bt, z_lst_bt, and_self]), ?_, ?_, ?_, ?_, ?_, fun a ha => ?_⟩ <;> simp only [w_start, z_nf_mk, z_inn_mk, z_sup_mk, z_fac_mk, z_las_mk, z_lan_mk, z_fcn_mk, z_fnm_mk, z_acn_mk, z_ak_mk, z_aa_mk, z_ab_mk, z_ofd_mk, z_nl_mk, z_par_mk, z_off_mk, z_the_mk, z_sp_mk, z_fc_mk, z_mad_mk, z_mk_mk, z_abv_mk, z_bt_mk, z_rk_mk, z_nc_mk, z_cl_mk, z_cn_mk, z_cla_mk, z_row_mk, z_stp_mk, z_beg_mk, z_mst_mk, z_lst_mk, z_nf_sp, z_inn_sp, z_sup_sp, z_fac_sp, z_las_sp, z_lan_sp, z_fcn_sp, z_fnm_sp, z_acn_sp, z_ak_sp, z_aa_sp, z_ab_sp, z_ofd_sp, z_nl_sp, z_par_sp, z_off_sp, z_the_sp, z_sp_sp, z_fc_sp, z_mad_sp, z_mk_sp, z_abv_sp, z_bt_sp, z_rk_sp, z_nc_sp, z_cl_sp, z_cn_sp, z_cla_sp, z_row_sp, z_stp_sp, z_beg_sp, z_mst_sp, z_lst_sp, z_nf_abv, z_inn_abv, z_sup_abv, z_fac_abv, z_las_abv, z_lan_abv, z_fcn_abv, z_fnm_abv, z_acn_abv, z_ak_abv, z_aa_abv, z_ab_abv, z_ofd_abv, z_nl_abv, z_par_abv, z_off_abv, z_the_abv, z_sp_abv, z_fc_abv, z_mad_abv, z_mk_abv, z_abv_abv, z_bt_abv, z_rk_abv, z_nc_abv, z_cl_abv, z_cn_abv, z_cla_abv, z_row_abv, z_stp_abv, z_beg_abv, z_mst_abv, z_lst_abv, z_nf_bt, z_inn_bt, z_sup_bt, z_fac_bt, z_las_bt, z_lan_bt, z_fcn_bt, z_fnm_bt, z_acn_bt, z_ak_bt, z_aa_bt, z_ab_bt, z_ofd_bt, z_nl_bt, z_par_bt, z_off_bt, z_the_bt, z_sp_bt, z_fc_bt, z_mad_bt, z_mk_bt, z_abv_bt, z_bt_bt, z_rk_bt, z_nc_bt, z_cl_bt, z_cn_bt, z_cla_bt, z_row_bt, z_stp_bt, z_beg_bt, z_mst_bt, z_lst_bt]
  simp only [if_neg ha]
  simp
theorem OC_stop (σ : SS) (c : Nat) : OC σ (w_stop σ c) c := by
  refine ⟨(by simp only [tF, w_stop, z_nf_mk, z_inn_mk, z_sup_mk, z_fac_mk, z_las_mk, z_lan_mk, z_fcn_mk, z_fnm_mk, z_acn_mk, z_ak_mk, z_aa_mk, z_ab_mk, z_ofd_mk, z_nl_mk, z_par_mk, z_off_mk, z_the_mk, z_sp_mk, z_fc_mk, z_mad_mk, z_mk_mk, z_abv_mk, z_bt_mk, z_rk_mk, z_nc_mk, z_cl_mk, z_cn_mk, z_cla_mk, z_row_mk, z_stp_mk, z_beg_mk, z_mst_mk, z_lst_mk, and_self]), (by simp only [tC, w_stop, z_nf_mk, z_inn_mk, z_sup_mk, z_fac_mk, z_las_mk, z_lan_mk, z_fcn_mk, z_fnm_mk, z_acn_mk, z_ak_mk, z_aa_mk, z_ab_mk, z_ofd_mk, z_nl_mk, z_par_mk, z_off_mk, z_the_mk, z_sp_mk, z_fc_mk, z_mad_mk, z_mk_mk, z_abv_mk, z_bt_mk, z_rk_mk, z_nc_mk, z_cl_mk, z_cn_mk, z_cla_mk, z_row_mk, z_stp_mk, z_beg_mk, z_mst_mk, z_lst_mk, and_self]), (by simp only [tM, w_stop, z_nf_mk, z_inn_mk, z_sup_mk, z_fac_mk, z_las_mk, z_lan_mk, z_fcn_mk, z_fnm_mk, z_acn_mk, z_ak_mk, z_aa_mk, z_ab_mk, z_ofd_mk, z_nl_mk, z_par_mk, z_off_mk, z_the_mk, z_sp_mk, z_fc_mk, z_mad_mk, z_mk_mk, z_abv_mk, z_bt_mk, z_rk_mk, z_nc_mk, z_cl_mk, z_cn_mk, z_cla_mk, z_row_mk, z_stp_mk, z_beg_mk, z_mst_mk, z_lst_mk, and_self]), ?_, ?_, ?_, ?_, ?_, fun a ha => ?_⟩ <;> simp only [w_stop, z_nf_mk, z_inn_mk, z_sup_mk, z_fac_mk, z_las_mk, z_lan_mk, z_fcn_mk, z_fnm_mk, z_acn_mk, z_ak_mk, z_aa_mk, z_ab_mk, z_ofd_mk, z_nl_mk, z_par_mk, z_off_mk, z_the_mk, z_sp_mk, z_fc_mk, z_mad_mk, z_mk_mk, z_abv_mk, z_bt_mk, z_rk_mk, z_nc_mk, z_cl_mk, z_cn_mk, z_cla_mk, z_row_mk, z_stp_mk, z_beg_mk, z_mst_mk, z_lst_mk]
  simp only [if_neg ha]
  simp
theorem OC_sup1 (σ : SS) (c u : Nat) : OC σ (w_sup1 σ c u) c := by
  refine ⟨(by simp only [tF, w_sup1, z_nf_sp, z_inn_sp, z_sup_sp, z_fac_sp, z_las_sp, z_lan_sp, z_fcn_sp, z_fnm_sp, z_acn_sp, z_ak_sp, z_aa_sp, z_ab_sp, z_ofd_sp, z_nl_sp, z_par_sp, z_off_sp, z_the_sp, z_sp_sp, z_fc_sp, z_mad_sp, z_mk_sp, z_abv_sp, z_bt_sp, z_rk_sp, z_nc_sp, z_cl_sp, z_cn_sp, z_cla_sp, z_row_sp, z_stp_sp, z_beg_sp, z_mst_sp, z_lst_sp, z_nf_abv, z_inn_abv, z_sup_abv, z_fac_abv, z_las_abv, z_lan_abv, z_fcn_abv, z_fnm_abv, z_acn_abv, z_ak_abv, z_aa_abv, z_ab_abv, z_ofd_abv, z_nl_abv, z_par_abv, z_off_abv, z_the_abv, z_sp_abv, z_fc_abv, z_mad_abv, z_mk_abv, z_abv_abv, z_bt_abv, z_rk_abv, z_nc_abv, z_cl_abv, z_cn_abv, z_cla_abv, z_row_abv, z_stp_abv, z_beg_abv, z_mst_abv, z_lst_abv, z_nf_bt, z_inn_bt, z_sup_bt, z_fac_bt, z_las_bt, z_lan_bt, z_fcn_bt, z_fnm_bt, z_acn_bt, z_ak_bt, z_aa_bt, z_ab_bt, z_ofd_bt, z_nl_bt, z_par_bt, z_off_bt, z_the_bt, z_sp_bt, z_fc_bt, z_mad_bt, z_mk_bt, z_abv_bt, z_bt_bt, z_rk_bt, z_nc_bt, z_cl_bt, z_cn_bt, z_cla_bt, z_row_bt, z_stp_bt, z_beg_bt, z_mst_bt, z_lst_bt, and_self]), (by simp only [tC, w_sup1, z_nf_sp, z_inn_sp, z_sup_sp, z_fac_sp, z_las_sp, z_lan_sp, z_fcn_sp, z_fnm_sp, z_acn_sp, z_ak_sp, z_aa_sp, z_ab_sp, z_ofd_sp, z_nl_sp, z_par_sp, z_off_sp, z_the_sp, z_sp_sp, z_fc_sp, z_mad_sp, z_mk_sp, z_abv_sp, z_bt_sp, z_rk_sp, z_nc_sp, z_cl_sp, z_cn_sp, z_cla_sp, z_row_sp, z_stp_sp, z_beg_sp, z_mst_sp, z_lst_sp, z_nf_abv, z_inn_abv, z_sup_abv, z_fac_abv, z_las_abv, z_lan_abv, z_fcn_abv, z_fnm_abv, z_acn_abv, z_ak_abv, z_aa_abv, z_ab_abv, z_ofd_abv, z_nl_abv, z_par_abv, z_off_abv, z_the_abv, z_sp_abv, z_fc_abv, z_mad_abv, z_mk_abv, z_abv_abv, z_bt_abv, z_rk_abv, z_nc_abv, z_cl_abv, z_cn_abv, z_cla_abv, z_row_abv, z_stp_abv, z_beg_abv, z_mst_abv, z_lst_abv, z_nf_bt, z_inn_bt, z_sup_bt, z_fac_bt, z_las_bt, z_lan_bt, z_fcn_bt, z_fnm_bt, z_acn_bt, z_ak_bt, z_aa_bt, z_ab_bt, z_ofd_bt, z_nl_bt, z_par_bt, z_off_bt, z_the_bt, z_sp_bt, z_fc_bt, z_mad_bt, z_mk_bt, z_abv_bt, z_bt_bt, z_rk_bt, z_nc_bt, z_cl_bt, z_cn_bt, z_cla_bt, z_row_bt, z_stp_bt, z_beg_bt, z_mst_bt, z_lst_bt, and_self]), (by simp only [tM, w_sup1, z_nf_sp, z_inn_sp, z_sup_sp, z_fac_sp, z_las_sp, z_lan_sp, z_fcn_sp, z_fnm_sp, z_acn_sp, z_ak_sp, z_aa_sp, z_ab_sp, z_ofd_sp, z_nl_sp, z_par_sp, z_off_sp, z_the_sp, z_sp_sp, z_fc_sp, z_mad_sp, z_mk_sp, z_abv_sp, z_bt_sp, z_rk_sp, z_nc_sp, z_cl_sp, z_cn_sp, z_cla_sp, z_row_sp, z_stp_sp, z_beg_sp, z_mst_sp, z_lst_sp, z_nf_abv, z_inn_abv, z_sup_abv, z_fac_abv, z_las_abv, z_lan_abv, z_fcn_abv, z_fnm_abv, z_acn_abv, z_ak_abv, z_aa_abv, z_ab_abv, z_ofd_abv, z_nl_abv, z_par_abv, z_off_abv, z_the_abv, z_sp_abv, z_fc_abv, z_mad_abv, z_mk_abv, z_abv_abv, z_bt_abv, z_rk_abv, z_nc_abv, z_cl_abv, z_cn_abv, z_cla_abv, z_row_abv, z_stp_abv, z_beg_abv, z_mst_abv, z_lst_abv, z_nf_bt, z_inn_bt, z_sup_bt, z_fac_bt, z_las_bt, z_lan_bt, z_fcn_bt, z_fnm_bt, z_acn_bt, z_ak_bt, z_aa_bt, z_ab_bt, z_ofd_bt, z_nl_bt, z_par_bt, z_off_bt, z_the_bt, z_sp_bt, z_fc_bt, z_mad_bt, z_mk_bt, z_abv_bt, z_bt_bt, z_rk_bt, z_nc_bt, z_cl_bt, z_cn_bt, z_cla_bt, z_row_bt, z_stp_bt, z_beg_bt, z_mst_bt, z_lst_bt, and_self]), ?_, ?_, ?_, ?_, ?_, fun a ha => ?_⟩ <;> simp only [w_sup1, z_nf_sp, z_inn_sp, z_sup_sp, z_fac_sp, z_las_sp, z_lan_sp, z_fcn_sp, z_fnm_sp, z_acn_sp, z_ak_sp, z_aa_sp, z_ab_sp, z_ofd_sp, z_nl_sp, z_par_sp, z_off_sp, z_the_sp, z_sp_sp, z_fc_sp, z_mad_sp, z_mk_sp, z_abv_sp, z_bt_sp, z_rk_sp, z_nc_sp, z_cl_sp, z_cn_sp, z_cla_sp, z_row_sp, z_stp_sp, z_beg_sp, z_mst_sp, z_lst_sp, z_nf_abv, z_inn_abv, z_sup_abv, z_fac_abv, z_las_abv, z_lan_abv, z_fcn_abv, z_fnm_abv, z_acn_abv, z_ak_abv, z_aa_abv, z_ab_abv, z_ofd_abv, z_nl_abv, z_par_abv, z_off_abv, z_the_abv, z_sp_abv, z_fc_abv, z_mad_abv, z_mk_abv, z_abv_abv, z_bt_abv, z_rk_abv, z_nc_abv, z_cl_abv, z_cn_abv, z_cla_abv, z_row_abv, z_stp_abv, z_beg_abv, z_mst_abv, z_lst_abv, z_nf_bt, z_inn_bt, z_sup_bt, z_fac_bt, z_las_bt, z_lan_bt, z_fcn_bt, z_fnm_bt, z_acn_bt, z_ak_bt, z_aa_bt, z_ab_bt, z_ofd_bt, z_nl_bt, z_par_bt, z_off_bt, z_the_bt, z_sp_bt, z_fc_bt, z_mad_bt, z_mk_bt, z_abv_bt, z_bt_bt, z_rk_bt, z_nc_bt, z_cl_bt, z_cn_bt, z_cla_bt, z_row_bt, z_stp_bt, z_beg_bt, z_mst_bt, z_lst_bt]
  simp only [if_neg ha]
  simp
theorem OC_face (σ : SS) (c j u : Nat) : OC σ (w_face σ c j u) c := by
  refine ⟨(by simp only [tF, w_face, z_nf_fc, z_inn_fc, z_sup_fc, z_fac_fc, z_las_fc, z_lan_fc, z_fcn_fc, z_fnm_fc, z_acn_fc, z_ak_fc, z_aa_fc, z_ab_fc, z_ofd_fc, z_nl_fc, z_par_fc, z_off_fc, z_the_fc, z_sp_fc, z_fc_fc, z_mad_fc, z_mk_fc, z_abv_fc, z_bt_fc, z_rk_fc, z_nc_fc, z_cl_fc, z_cn_fc, z_cla_fc, z_row_fc, z_stp_fc, z_beg_fc, z_mst_fc, z_lst_fc, z_nf_bt, z_inn_bt, z_sup_bt, z_fac_bt, z_las_bt, z_lan_bt, z_fcn_bt, z_fnm_bt, z_acn_bt, z_ak_bt, z_aa_bt, z_ab_bt, z_ofd_bt, z_nl_bt, z_par_bt, z_off_bt, z_the_bt, z_sp_bt, z_fc_bt, z_mad_bt, z_mk_bt, z_abv_bt, z_bt_bt, z_rk_bt, z_nc_bt, z_cl_bt, z_cn_bt, z_cla_bt, z_row_bt, z_stp_bt, z_beg_bt, z_mst_bt, z_lst_bt, and_self]), (by simp only [tC, w_face, z_nf_fc, z_inn_fc, z_sup_fc, z_fac_fc, z_las_fc, z_lan_fc, z_fcn_fc, z_fnm_fc, z_acn_fc, z_ak_fc, z_aa_fc, z_ab_fc, z_ofd_fc, z_nl_fc, z_par_fc, z_off_fc, z_the_fc, z_sp_fc, z_fc_fc, z_mad_fc, z_mk_fc, z_abv_fc, z_bt_fc, z_rk_fc, z_nc_fc, z_cl_fc, z_cn_fc, z_cla_fc, z_row_fc, z_stp_fc, z_beg_fc, z_mst_fc, z_lst_fc, z_nf_bt, z_inn_bt, z_sup_bt, z_fac_bt, z_las_bt, z_lan_bt, z_fcn_bt, z_fnm_bt, z_acn_bt, z_ak_bt, z_aa_bt, z_ab_bt, z_ofd_bt, z_nl_bt, z_par_bt, z_off_bt, z_the_bt, z_sp_bt, z_fc_bt, z_mad_bt, z_mk_bt, z_abv_bt, z_bt_bt, z_rk_bt, z_nc_bt, z_cl_bt, z_cn_bt, z_cla_bt, z_row_bt, z_stp_bt, z_beg_bt, z_mst_bt, z_lst_bt, and_self]), (by simp only [tM, w_face, z_nf_fc, z_inn_fc, z_sup_fc, z_fac_fc, z_las_fc, z_lan_fc, z_fcn_fc, z_fnm_fc, z_acn_fc, z_ak_fc, z_aa_fc, z_ab_fc, z_ofd_fc, z_nl_fc, z_par_fc, z_off_fc, z_the_fc, z_sp_fc, z_fc_fc, z_mad_fc, z_mk_fc, z_abv_fc, z_bt_fc, z_rk_fc, z_nc_fc, z_cl_fc, z_cn_fc, z_cla_fc, z_row_fc, z_stp_fc, z_beg_fc, z_mst_fc, z_lst_fc, z_nf_bt, z_inn_bt, z_sup_bt, z_fac_bt, z_las_bt, z_lan_bt, z_fcn_bt, z_fnm_bt, z_acn_bt, z_ak_bt, z_aa_bt, z_ab_bt, z_ofd_bt, z_nl_bt, z_par_bt, z_off_bt, z_the_bt, z_sp_bt, z_fc_bt, z_mad_bt, z_mk_bt, z_abv_bt, z_bt_bt, z_rk_bt, z_nc_bt, z_cl_bt, z_cn_bt, z_cla_bt, z_row_bt, z_stp_bt, z_beg_bt, z_mst_bt, z_lst_bt, and_self]), ?_, ?_, ?_, ?_, ?_, fun a ha => ?_⟩ <;> simp only [w_face, z_nf_fc, z_inn_fc, z_sup_fc, z_fac_fc, z_las_fc, z_lan_fc, z_fcn_fc, z_fnm_fc, z_acn_fc, z_ak_fc, z_aa_fc, z_ab_fc, z_ofd_fc, z_nl_fc, z_par_fc, z_off_fc, z_the_fc, z_sp_fc, z_fc_fc, z_mad_fc, z_mk_fc, z_abv_fc, z_bt_fc, z_rk_fc, z_nc_fc, z_cl_fc, z_cn_fc, z_cla_fc, z_row_fc, z_stp_fc, z_beg_fc, z_mst_fc, z_lst_fc, z_nf_bt, z_inn_bt, z_sup_bt, z_fac_bt, z_las_bt, z_lan_bt, z_fcn_bt, z_fnm_bt, z_acn_bt, z_ak_bt, z_aa_bt, z_ab_bt, z_ofd_bt, z_nl_bt, z_par_bt, z_off_bt, z_the_bt, z_sp_bt, z_fc_bt, z_mad_bt, z_mk_bt, z_abv_bt, z_bt_bt, z_rk_bt, z_nc_bt, z_cl_bt, z_cn_bt, z_cla_bt, z_row_bt, z_stp_bt, z_beg_bt, z_mst_bt, z_lst_bt]
  simp only [if_neg ha, ha, false_and, if_false]
  simp
theorem OC_put (σ : SS) (c : Nat) (s : Bool) (j u : Nat) : OC σ (w_put σ c s j u) c := by
  unfold w_put
  split
  · exact OC_sup1 σ c u
  · exact OC_face σ c j u
theorem UP_OC {σ τ : SS} {c : Nat} (h : OC σ τ c) {a : Nat} (ha : ¬ a = c) (u : Nat) : UP τ a u ↔ UP σ a u := by
  obtain ⟨⟨e_nf, e_inn, e_sup, e_fac, e_las, e_lan, e_fcn, e_fnm, e_acn, e_ak, e_aa, e_ab, e_ofd⟩, h2, h3, h4, h5, h6, h7, h8, h9⟩ := h
  simp only [UP, e_fcn, h6, h9 a ha]
theorem IT_OC {σ τ : SS} {c : Nat} (h : OC σ τ c) (hc : z_the σ c = false) (hI : IT σ) : IT τ := by
  have hU := fun a (ha : ¬ a = c) u => UP_OC h ha u
  obtain ⟨h1, h2, h3, h4, h5, h6, h7, h8, h9⟩ := h
  have ne : ∀ a, z_the σ a = true → ¬ a = c := fun a ha q => by rw [q, hc] at ha; cases ha
  intro a ha
  rw [h7] at ha
  obtain ⟨t1, t2, t3, t4, t5, t6⟩ := hI a ha
  obtain ⟨q1, q2, q3, q4, q5, q6⟩ := h9 a (ne a ha)
  simp only [hU a (ne a ha), lbe_st h5, h7, h8, q1, q3, q4, q5, q6]
  refine ⟨fun u hu => ?_, fun d => ?_, ?_, t4, t5, t6⟩
  · obtain ⟨w1, w2, w3⟩ := t1 u hu
    rw [(h9 u (ne u w1)).2.2.2.2.1]
    exact ⟨w1, w2, w3⟩
  · rw [t2 d]
    refine or_congr Iff.rfl (exists_congr (fun u => and_congr_right (fun hu => ?_)))
    rw [(h9 u (ne u (t1 u hu).1)).2.2.2.1]
  · rw [t3]
    cases e : z_sp σ a with
    | none => rfl
    | some s =>
      show _ = z_abv τ s + 1
      rw [(h9 s (ne s (t1 s (.inl e)).1)).2.2.1]
theorem II_OC {σ τ : SS} {c : Nat} (h : OC σ τ c) (hc : z_the σ c = false) (ho : ∃ f, z_off σ c = some f) (hI : II σ) : II τ := by
  refine ⟨IF_st h.1 hI.1, ?_, IT_OC h hc hI.2.2⟩
  obtain ⟨⟨e_nf, e_inn, e_sup, e_fac, e_las, e_lan, e_fcn, e_fnm, e_acn, e_ak, e_aa, e_ab, e_ofd⟩, h2, h3, h4, h5, h6, h7, h8, h9⟩ := h
  obtain ⟨i1, i2, i3, i4, i5, i6, i7, i8, i9⟩ := hI.2.1
  simp only [IL, e_nf, e_ofd, h4, h5, h6, h7]
  refine ⟨i1, i2, i3, i4, i5, i6, i7, i8, fun a ha => ?_⟩
  by_cases e : a = c
  · rw [e]
    exact ho
  · rw [(h9 a e).2.2.2.2.2] at ha
    exact i9 a ha
/-- what a making leaves as it was -/
def FRx (σ τ : SS) (x : Nat) : Prop := tF σ τ ∧ tC σ τ ∧ tM σ τ ∧ z_nl τ = z_nl σ ∧ z_par τ = z_par σ ∧ z_off τ = z_off σ ∧ z_mk τ = z_mk σ ∧ z_mad σ ≤ z_mad τ ∧ (∀ c, z_the σ c = true → z_the τ c = true) ∧ (∀ c, ¬ c = x → z_the σ c = true ∨ z_mk σ c = true → z_sp τ c = z_sp σ c ∧ z_fc τ c = z_fc σ c ∧ z_abv τ c = z_abv σ c ∧ z_bt τ c = z_bt σ c ∧ z_rk τ c = z_rk σ c) ∧ (∀ c, z_mk σ c = true → z_the τ c = z_the σ c)
theorem FRx_of {σ τ : SS} (x : Nat) (h : FR σ τ) : FRx σ τ x := by
  obtain ⟨a1, a2, a3, a4, a5, a6, a7, a8, a9, a10, a11⟩ := h
  exact ⟨a1, a2, a3, a4, a5, a6, a7, a8, a9, fun c _ h => a10 c h, a11⟩
theorem FRx_trans {σ τ υ : SS} {x : Nat} (h : FRx σ τ x) (h2 : FRx τ υ x) : FRx σ υ x := by
  obtain ⟨a1, a2, a3, a4, a5, a6, a7, a8, a9, a10, a11⟩ := h
  obtain ⟨b1, b2, b3, b4, b5, b6, b7, b8, b9, b10, b11⟩ := h2
  refine ⟨tF_trans a1 b1, tC_trans a2 b2, tM_trans a3 b3, b4.trans a4, b5.trans a5, b6.trans a6, b7.trans a7, Nat.le_trans a8 b8, fun c h => b9 c (a9 c h), fun c hx h => ?_, fun c h => ?_⟩
  · obtain ⟨p1, p2, p3, p4, p5⟩ := a10 c hx h
    obtain ⟨q1, q2, q3, q4, q5⟩ := b10 c hx (h.imp (a9 c) (fun h => by rw [a7]; exact h))
    exact ⟨q1.trans p1, q2.trans p2, q3.trans p3, q4.trans p4, q5.trans p5⟩
  · exact (b11 c (by rw [a7]; exact h)).trans (a11 c h)
theorem FRx_OC {σ τ : SS} {c : Nat} (h : OC σ τ c) (hm : z_mk τ c = z_mk σ c) : FRx σ τ c := by
  obtain ⟨h1, h2, h3, h4, h5, h6, h7, h8, h9⟩ := h
  refine ⟨h1, h2, h3, h4, h5, h6, ?_, by rw [h8]; exact Nat.le_refl _, fun a ha => by rw [h7]; exact ha, fun a hx _ => ?_, fun a _ => by rw [h7]⟩
  · funext a
    by_cases e : a = c
    · rw [e]
      exact hm
    · exact (h9 a e).2.2.2.2.2
  · obtain ⟨q1, q2, q3, q4, q5, q6⟩ := h9 a hx
    exact ⟨q1, q2, q3, q4, q5⟩
theorem MK_FR {σ τ : SS} {c jn : Nat} (hM : MK σ c jn) (h : FR σ τ) : MK τ c jn := by
  obtain ⟨a1, a2, a3, a4, a5, a6, a7, a8, a9, a10, a11⟩ := h
  obtain ⟨m1, m2, m3, m4, m5, m6⟩ := hM
  obtain ⟨q1, q2, q3, q4, q5⟩ := a10 c (.inr m1)
  have hU : ∀ u, UPj τ c jn u ↔ UPj σ c jn u := fun u => by simp only [UPj, q1, q2]
  simp only [MK, hU, a7, lbe_st a5, q1, q3, q4]
  refine ⟨m1, (a11 c m1).trans m2, fun u hu => ⟨a9 u (m3 u hu).1, (m3 u hu).2⟩, fun d => ?_, ?_, m6⟩
  · rw [m4 d]
    refine or_congr Iff.rfl (exists_congr (fun u => and_congr_right (fun hu => ?_)))
    rw [(a10 u (.inl (m3 u hu).1)).2.2.2.1]
  · rw [m5]
    cases e : z_sp σ c with
    | none => rfl
    | some s =>
      show _ = z_abv τ s + 1
      rw [(a10 s (.inl (m3 s (.inl e)).1)).2.2.1]
theorem MK_start {σ : SS} {c : Nat} (hc : z_the σ c = false) : MK (w_start σ c) c 0 := by
  simp only [MK, UPj, w_start, z_nf_mk, z_inn_mk, z_sup_mk, z_fac_mk, z_las_mk, z_lan_mk, z_fcn_mk, z_fnm_mk, z_acn_mk, z_ak_mk, z_aa_mk, z_ab_mk, z_ofd_mk, z_nl_mk, z_par_mk, z_off_mk, z_the_mk, z_sp_mk, z_fc_mk, z_mad_mk, z_mk_mk, z_abv_mk, z_bt_mk, z_rk_mk, z_nc_mk, z_cl_mk, z_cn_mk, z_cla_mk, z_row_mk, z_stp_mk, z_beg_mk, z_mst_mk, z_lst_mk, z_nf_sp, z_inn_sp, z_sup_sp, z_fac_sp, z_las_sp, z_lan_sp, z_fcn_sp, z_fnm_sp, z_acn_sp, z_ak_sp, z_aa_sp, z_ab_sp, z_ofd_sp, z_nl_sp, z_par_sp, z_off_sp, z_the_sp, z_sp_sp, z_fc_sp, z_mad_sp, z_mk_sp, z_abv_sp, z_bt_sp, z_rk_sp, z_nc_sp, z_cl_sp, z_cn_sp, z_cla_sp, z_row_sp, z_stp_sp, z_beg_sp, z_mst_sp, z_lst_sp, z_nf_abv, z_inn_abv, z_sup_abv, z_fac_abv, z_las_abv, z_lan_abv, z_fcn_abv, z_fnm_abv, z_acn_abv, z_ak_abv, z_aa_abv, z_ab_abv, z_ofd_abv, z_nl_abv, z_par_abv, z_off_abv, z_the_abv, z_sp_abv, z_fc_abv, z_mad_abv, z_mk_abv, z_abv_abv, z_bt_abv, z_rk_abv, z_nc_abv, z_cl_abv, z_cn_abv, z_cla_abv, z_row_abv, z_stp_abv, z_beg_abv, z_mst_abv, z_lst_abv, z_nf_bt, z_inn_bt, z_sup_bt, z_fac_bt, z_las_bt, z_lan_bt, z_fcn_bt, z_fnm_bt, z_acn_bt, z_ak_bt, z_aa_bt, z_ab_bt, z_ofd_bt, z_nl_bt, z_par_bt, z_off_bt, z_the_bt, z_sp_bt, z_fc_bt, z_mad_bt, z_mk_bt, z_abv_bt, z_bt_bt, z_rk_bt, z_nc_bt, z_cl_bt, z_cn_bt, z_cla_bt, z_row_bt, z_stp_bt, z_beg_bt, z_mst_bt, z_lst_bt]
  simp [hc]
theorem MK_sup1 {σ : SS} {c u : Nat} (hM : MK σ c 0) (hs : z_sp σ c = none) (hu : z_the σ u = true) (hl : lbe σ 9 (c / 30) (u / 30) = true) (h12 : z_abv σ u < 12) : MK (w_sup1 σ c u) c 0 := by
  obtain ⟨m1, m2, m3, m4, m5, m6⟩ := hM
  have ne : ¬ u = c := fun q => by rw [q, m2] at hu; cases hu
  have eL : ∀ k m, lbe (w_sup1 σ c u) 9 k m = lbe σ 9 k m := fun k m => lbe_st (by simp only [w_sup1, z_nf_sp, z_inn_sp, z_sup_sp, z_fac_sp, z_las_sp, z_lan_sp, z_fcn_sp, z_fnm_sp, z_acn_sp, z_ak_sp, z_aa_sp, z_ab_sp, z_ofd_sp, z_nl_sp, z_par_sp, z_off_sp, z_the_sp, z_sp_sp, z_fc_sp, z_mad_sp, z_mk_sp, z_abv_sp, z_bt_sp, z_rk_sp, z_nc_sp, z_cl_sp, z_cn_sp, z_cla_sp, z_row_sp, z_stp_sp, z_beg_sp, z_mst_sp, z_lst_sp, z_nf_abv, z_inn_abv, z_sup_abv, z_fac_abv, z_las_abv, z_lan_abv, z_fcn_abv, z_fnm_abv, z_acn_abv, z_ak_abv, z_aa_abv, z_ab_abv, z_ofd_abv, z_nl_abv, z_par_abv, z_off_abv, z_the_abv, z_sp_abv, z_fc_abv, z_mad_abv, z_mk_abv, z_abv_abv, z_bt_abv, z_rk_abv, z_nc_abv, z_cl_abv, z_cn_abv, z_cla_abv, z_row_abv, z_stp_abv, z_beg_abv, z_mst_abv, z_lst_abv, z_nf_bt, z_inn_bt, z_sup_bt, z_fac_bt, z_las_bt, z_lan_bt, z_fcn_bt, z_fnm_bt, z_acn_bt, z_ak_bt, z_aa_bt, z_ab_bt, z_ofd_bt, z_nl_bt, z_par_bt, z_off_bt, z_the_bt, z_sp_bt, z_fc_bt, z_mad_bt, z_mk_bt, z_abv_bt, z_bt_bt, z_rk_bt, z_nc_bt, z_cl_bt, z_cn_bt, z_cla_bt, z_row_bt, z_stp_bt, z_beg_bt, z_mst_bt, z_lst_bt]) _ _ _
  simp only [MK, eL]
  simp only [UPj, w_sup1, z_nf_sp, z_inn_sp, z_sup_sp, z_fac_sp, z_las_sp, z_lan_sp, z_fcn_sp, z_fnm_sp, z_acn_sp, z_ak_sp, z_aa_sp, z_ab_sp, z_ofd_sp, z_nl_sp, z_par_sp, z_off_sp, z_the_sp, z_sp_sp, z_fc_sp, z_mad_sp, z_mk_sp, z_abv_sp, z_bt_sp, z_rk_sp, z_nc_sp, z_cl_sp, z_cn_sp, z_cla_sp, z_row_sp, z_stp_sp, z_beg_sp, z_mst_sp, z_lst_sp, z_nf_abv, z_inn_abv, z_sup_abv, z_fac_abv, z_las_abv, z_lan_abv, z_fcn_abv, z_fnm_abv, z_acn_abv, z_ak_abv, z_aa_abv, z_ab_abv, z_ofd_abv, z_nl_abv, z_par_abv, z_off_abv, z_the_abv, z_sp_abv, z_fc_abv, z_mad_abv, z_mk_abv, z_abv_abv, z_bt_abv, z_rk_abv, z_nc_abv, z_cl_abv, z_cn_abv, z_cla_abv, z_row_abv, z_stp_abv, z_beg_abv, z_mst_abv, z_lst_abv, z_nf_bt, z_inn_bt, z_sup_bt, z_fac_bt, z_las_bt, z_lan_bt, z_fcn_bt, z_fnm_bt, z_acn_bt, z_ak_bt, z_aa_bt, z_ab_bt, z_ofd_bt, z_nl_bt, z_par_bt, z_off_bt, z_the_bt, z_sp_bt, z_fc_bt, z_mad_bt, z_mk_bt, z_abv_bt, z_bt_bt, z_rk_bt, z_nc_bt, z_cl_bt, z_cn_bt, z_cla_bt, z_row_bt, z_stp_bt, z_beg_bt, z_mst_bt, z_lst_bt, if_true]
  simp only [UPj, hs] at m4
  refine ⟨m1, m2, ?_, ?_, ?_, by omega⟩
  · rintro w (hw | ⟨j, hj, -⟩)
    · cases hw
      exact ⟨hu, hl⟩
    · omega
  · intro d
    have h4 := m4 d
    simp only [Bool.or_eq_true, h4]
    constructor
    · rintro ((h | ⟨w, (h | ⟨j, hj, -⟩), -⟩) | h)
      · exact .inl h
      · cases h
      · omega
      · exact .inr ⟨u, .inl rfl, by rw [if_neg ne]; exact h⟩
    · rintro (h | ⟨w, (h | ⟨j, hj, -⟩), h2⟩)
      · exact .inl (.inl h)
      · cases h
        rw [if_neg ne] at h2
        exact .inr h2
      · omega
  · show z_abv σ u + 1 = (if u = c then z_abv σ u + 1 else z_abv σ u) + 1
    rw [if_neg ne]
theorem MK_face {σ : SS} {c j u : Nat} (hM : MK σ c j) (hu : z_the σ u = true) (hl : lbe σ 9 (c / 30) (u / 30) = true) : MK (w_face σ c j u) c (j + 1) := by
  obtain ⟨m1, m2, m3, m4, m5, m6⟩ := hM
  have ne : ∀ w, z_the σ w = true → ¬ w = c := fun w hw q => by rw [q, m2] at hw; cases hw
  have eL : ∀ k m, lbe (w_face σ c j u) 9 k m = lbe σ 9 k m := fun k m => lbe_st (by simp only [w_face, z_nf_fc, z_inn_fc, z_sup_fc, z_fac_fc, z_las_fc, z_lan_fc, z_fcn_fc, z_fnm_fc, z_acn_fc, z_ak_fc, z_aa_fc, z_ab_fc, z_ofd_fc, z_nl_fc, z_par_fc, z_off_fc, z_the_fc, z_sp_fc, z_fc_fc, z_mad_fc, z_mk_fc, z_abv_fc, z_bt_fc, z_rk_fc, z_nc_fc, z_cl_fc, z_cn_fc, z_cla_fc, z_row_fc, z_stp_fc, z_beg_fc, z_mst_fc, z_lst_fc, z_nf_bt, z_inn_bt, z_sup_bt, z_fac_bt, z_las_bt, z_lan_bt, z_fcn_bt, z_fnm_bt, z_acn_bt, z_ak_bt, z_aa_bt, z_ab_bt, z_ofd_bt, z_nl_bt, z_par_bt, z_off_bt, z_the_bt, z_sp_bt, z_fc_bt, z_mad_bt, z_mk_bt, z_abv_bt, z_bt_bt, z_rk_bt, z_nc_bt, z_cl_bt, z_cn_bt, z_cla_bt, z_row_bt, z_stp_bt, z_beg_bt, z_mst_bt, z_lst_bt]) _ _ _
  have hU : ∀ w, UPj (w_face σ c j u) c (j + 1) w ↔ UPj σ c j w ∨ w = u := by
    intro w
    simp only [UPj, w_face, z_nf_fc, z_inn_fc, z_sup_fc, z_fac_fc, z_las_fc, z_lan_fc, z_fcn_fc, z_fnm_fc, z_acn_fc, z_ak_fc, z_aa_fc, z_ab_fc, z_ofd_fc, z_nl_fc, z_par_fc, z_off_fc, z_the_fc, z_sp_fc, z_fc_fc, z_mad_fc, z_mk_fc, z_abv_fc, z_bt_fc, z_rk_fc, z_nc_fc, z_cl_fc, z_cn_fc, z_cla_fc, z_row_fc, z_stp_fc, z_beg_fc, z_mst_fc, z_lst_fc, z_nf_bt, z_inn_bt, z_sup_bt, z_fac_bt, z_las_bt, z_lan_bt, z_fcn_bt, z_fnm_bt, z_acn_bt, z_ak_bt, z_aa_bt, z_ab_bt, z_ofd_bt, z_nl_bt, z_par_bt, z_off_bt, z_the_bt, z_sp_bt, z_fc_bt, z_mad_bt, z_mk_bt, z_abv_bt, z_bt_bt, z_rk_bt, z_nc_bt, z_cl_bt, z_cn_bt, z_cla_bt, z_row_bt, z_stp_bt, z_beg_bt, z_mst_bt, z_lst_bt, true_and]
    constructor
    · rintro (h | ⟨i, hi, h⟩)
      · exact .inl (.inl h)
      · by_cases e : i = j
        · rw [if_pos e] at h
          exact .inr h.symm
        · rw [if_neg e] at h
          exact .inl (.inr ⟨i, by omega, h⟩)
    · rintro ((h | ⟨i, hi, h⟩) | h)
      · exact .inl h
      · exact .inr ⟨i, by omega, by rw [if_neg (by omega)]; exact h⟩
      · exact .inr ⟨j, by omega, by rw [if_pos rfl]; exact h.symm⟩
  simp only [MK, eL, hU]
  simp only [w_face, z_nf_fc, z_inn_fc, z_sup_fc, z_fac_fc, z_las_fc, z_lan_fc, z_fcn_fc, z_fnm_fc, z_acn_fc, z_ak_fc, z_aa_fc, z_ab_fc, z_ofd_fc, z_nl_fc, z_par_fc, z_off_fc, z_the_fc, z_sp_fc, z_fc_fc, z_mad_fc, z_mk_fc, z_abv_fc, z_bt_fc, z_rk_fc, z_nc_fc, z_cl_fc, z_cn_fc, z_cla_fc, z_row_fc, z_stp_fc, z_beg_fc, z_mst_fc, z_lst_fc, z_nf_bt, z_inn_bt, z_sup_bt, z_fac_bt, z_las_bt, z_lan_bt, z_fcn_bt, z_fnm_bt, z_acn_bt, z_ak_bt, z_aa_bt, z_ab_bt, z_ofd_bt, z_nl_bt, z_par_bt, z_off_bt, z_the_bt, z_sp_bt, z_fc_bt, z_mad_bt, z_mk_bt, z_abv_bt, z_bt_bt, z_rk_bt, z_nc_bt, z_cl_bt, z_cn_bt, z_cla_bt, z_row_bt, z_stp_bt, z_beg_bt, z_mst_bt, z_lst_bt, if_true]
  refine ⟨m1, m2, ?_, ?_, m5, m6⟩
  · rintro w (hw | rfl)
    · exact m3 w hw
    · exact ⟨hu, hl⟩
  · intro d
    simp only [Bool.or_eq_true, m4 d]
    constructor
    · rintro ((h | ⟨w, h, h2⟩) | h)
      · exact .inl h
      · exact .inr ⟨w, .inl h, by rw [if_neg (ne w (m3 w h).1)]; exact h2⟩
      · exact .inr ⟨u, .inr rfl, by rw [if_neg (ne u hu)]; exact h⟩
    · rintro (h | ⟨w, (h | rfl), h2⟩)
      · exact .inl (.inl h)
      · rw [if_neg (ne w (m3 w h).1)] at h2
        exact .inl (.inr ⟨w, h, h2⟩)
      · rw [if_neg (ne w hu)] at h2
        exact .inr h2
theorem II_done {σ : SS} {c f : Nat} (hI : II σ) (ho : z_off σ c = some f) (hM : MK σ c (z_fcn σ f)) : II (w_done σ c) := by
  have sf : tF σ (w_done σ c) := (by simp only [tF, w_done, z_nf_the, z_inn_the, z_sup_the, z_fac_the, z_las_the, z_lan_the, z_fcn_the, z_fnm_the, z_acn_the, z_ak_the, z_aa_the, z_ab_the, z_ofd_the, z_nl_the, z_par_the, z_off_the, z_the_the, z_sp_the, z_fc_the, z_mad_the, z_mk_the, z_abv_the, z_bt_the, z_rk_the, z_nc_the, z_cl_the, z_cn_the, z_cla_the, z_row_the, z_stp_the, z_beg_the, z_mst_the, z_lst_the, z_nf_mk, z_inn_mk, z_sup_mk, z_fac_mk, z_las_mk, z_lan_mk, z_fcn_mk, z_fnm_mk, z_acn_mk, z_ak_mk, z_aa_mk, z_ab_mk, z_ofd_mk, z_nl_mk, z_par_mk, z_off_mk, z_the_mk, z_sp_mk, z_fc_mk, z_mad_mk, z_mk_mk, z_abv_mk, z_bt_mk, z_rk_mk, z_nc_mk, z_cl_mk, z_cn_mk, z_cla_mk, z_row_mk, z_stp_mk, z_beg_mk, z_mst_mk, z_lst_mk, z_nf_rk, z_inn_rk, z_sup_rk, z_fac_rk, z_las_rk, z_lan_rk, z_fcn_rk, z_fnm_rk, z_acn_rk, z_ak_rk, z_aa_rk, z_ab_rk, z_ofd_rk, z_nl_rk, z_par_rk, z_off_rk, z_the_rk, z_sp_rk, z_fc_rk, z_mad_rk, z_mk_rk, z_abv_rk, z_bt_rk, z_rk_rk, z_nc_rk, z_cl_rk, z_cn_rk, z_cla_rk, z_row_rk, z_stp_rk, z_beg_rk, z_mst_rk, z_lst_rk, z_nf_mad, z_inn_mad, z_sup_mad, z_fac_mad, z_las_mad, z_lan_mad, z_fcn_mad, z_fnm_mad, z_acn_mad, z_ak_mad, z_aa_mad, z_ab_mad, z_ofd_mad, z_nl_mad, z_par_mad, z_off_mad, z_the_mad, z_sp_mad, z_fc_mad, z_mad_mad, z_mk_mad, z_abv_mad, z_bt_mad, z_rk_mad, z_nc_mad, z_cl_mad, z_cn_mad, z_cla_mad, z_row_mad, z_stp_mad, z_beg_mad, z_mst_mad, z_lst_mad, and_self])
  obtain ⟨m1, m2, m3, m4, m5, m6⟩ := hM
  have ne : ∀ w, z_the σ w = true → ¬ w = c := fun w hw q => by rw [q, m2] at hw; cases hw
  have eL : ∀ k m, lbe (w_done σ c) 9 k m = lbe σ 9 k m := fun k m => lbe_st (by simp only [w_done, z_nf_the, z_inn_the, z_sup_the, z_fac_the, z_las_the, z_lan_the, z_fcn_the, z_fnm_the, z_acn_the, z_ak_the, z_aa_the, z_ab_the, z_ofd_the, z_nl_the, z_par_the, z_off_the, z_the_the, z_sp_the, z_fc_the, z_mad_the, z_mk_the, z_abv_the, z_bt_the, z_rk_the, z_nc_the, z_cl_the, z_cn_the, z_cla_the, z_row_the, z_stp_the, z_beg_the, z_mst_the, z_lst_the, z_nf_mk, z_inn_mk, z_sup_mk, z_fac_mk, z_las_mk, z_lan_mk, z_fcn_mk, z_fnm_mk, z_acn_mk, z_ak_mk, z_aa_mk, z_ab_mk, z_ofd_mk, z_nl_mk, z_par_mk, z_off_mk, z_the_mk, z_sp_mk, z_fc_mk, z_mad_mk, z_mk_mk, z_abv_mk, z_bt_mk, z_rk_mk, z_nc_mk, z_cl_mk, z_cn_mk, z_cla_mk, z_row_mk, z_stp_mk, z_beg_mk, z_mst_mk, z_lst_mk, z_nf_rk, z_inn_rk, z_sup_rk, z_fac_rk, z_las_rk, z_lan_rk, z_fcn_rk, z_fnm_rk, z_acn_rk, z_ak_rk, z_aa_rk, z_ab_rk, z_ofd_rk, z_nl_rk, z_par_rk, z_off_rk, z_the_rk, z_sp_rk, z_fc_rk, z_mad_rk, z_mk_rk, z_abv_rk, z_bt_rk, z_rk_rk, z_nc_rk, z_cl_rk, z_cn_rk, z_cla_rk, z_row_rk, z_stp_rk, z_beg_rk, z_mst_rk, z_lst_rk, z_nf_mad, z_inn_mad, z_sup_mad, z_fac_mad, z_las_mad, z_lan_mad, z_fcn_mad, z_fnm_mad, z_acn_mad, z_ak_mad, z_aa_mad, z_ab_mad, z_ofd_mad, z_nl_mad, z_par_mad, z_off_mad, z_the_mad, z_sp_mad, z_fc_mad, z_mad_mad, z_mk_mad, z_abv_mad, z_bt_mad, z_rk_mad, z_nc_mad, z_cl_mad, z_cn_mad, z_cla_mad, z_row_mad, z_stp_mad, z_beg_mad, z_mst_mad, z_lst_mad]) _ _ _
  have hU : ∀ a w, UP (w_done σ c) a w ↔ UP σ a w := fun a w => by simp only [UP, w_done, z_nf_the, z_inn_the, z_sup_the, z_fac_the, z_las_the, z_lan_the, z_fcn_the, z_fnm_the, z_acn_the, z_ak_the, z_aa_the, z_ab_the, z_ofd_the, z_nl_the, z_par_the, z_off_the, z_the_the, z_sp_the, z_fc_the, z_mad_the, z_mk_the, z_abv_the, z_bt_the, z_rk_the, z_nc_the, z_cl_the, z_cn_the, z_cla_the, z_row_the, z_stp_the, z_beg_the, z_mst_the, z_lst_the, z_nf_mk, z_inn_mk, z_sup_mk, z_fac_mk, z_las_mk, z_lan_mk, z_fcn_mk, z_fnm_mk, z_acn_mk, z_ak_mk, z_aa_mk, z_ab_mk, z_ofd_mk, z_nl_mk, z_par_mk, z_off_mk, z_the_mk, z_sp_mk, z_fc_mk, z_mad_mk, z_mk_mk, z_abv_mk, z_bt_mk, z_rk_mk, z_nc_mk, z_cl_mk, z_cn_mk, z_cla_mk, z_row_mk, z_stp_mk, z_beg_mk, z_mst_mk, z_lst_mk, z_nf_rk, z_inn_rk, z_sup_rk, z_fac_rk, z_las_rk, z_lan_rk, z_fcn_rk, z_fnm_rk, z_acn_rk, z_ak_rk, z_aa_rk, z_ab_rk, z_ofd_rk, z_nl_rk, z_par_rk, z_off_rk, z_the_rk, z_sp_rk, z_fc_rk, z_mad_rk, z_mk_rk, z_abv_rk, z_bt_rk, z_rk_rk, z_nc_rk, z_cl_rk, z_cn_rk, z_cla_rk, z_row_rk, z_stp_rk, z_beg_rk, z_mst_rk, z_lst_rk, z_nf_mad, z_inn_mad, z_sup_mad, z_fac_mad, z_las_mad, z_lan_mad, z_fcn_mad, z_fnm_mad, z_acn_mad, z_ak_mad, z_aa_mad, z_ab_mad, z_ofd_mad, z_nl_mad, z_par_mad, z_off_mad, z_the_mad, z_sp_mad, z_fc_mad, z_mad_mad, z_mk_mad, z_abv_mad, z_bt_mad, z_rk_mad, z_nc_mad, z_cl_mad, z_cn_mad, z_cla_mad, z_row_mad, z_stp_mad, z_beg_mad, z_mst_mad, z_lst_mad]
  have hUc : ∀ w, UP σ c w ↔ UPj σ c (z_fcn σ f) w := by
    intro w
    simp only [UP, UPj, ho]
    refine or_congr Iff.rfl ⟨?_, ?_⟩
    · rintro ⟨g, j, h1, h2, h3⟩
      cases h1
      exact ⟨j, h2, h3⟩
    · rintro ⟨j, h2, h3⟩
      exact ⟨f, j, rfl, h2, h3⟩
  refine ⟨IF_st sf hI.1, ?_, ?_⟩
  · obtain ⟨i1, i2, i3, i4, i5, i6, i7, i8, i9⟩ := hI.2.1
    simp only [IL, w_done, z_nf_the, z_inn_the, z_sup_the, z_fac_the, z_las_the, z_lan_the, z_fcn_the, z_fnm_the, z_acn_the, z_ak_the, z_aa_the, z_ab_the, z_ofd_the, z_nl_the, z_par_the, z_off_the, z_the_the, z_sp_the, z_fc_the, z_mad_the, z_mk_the, z_abv_the, z_bt_the, z_rk_the, z_nc_the, z_cl_the, z_cn_the, z_cla_the, z_row_the, z_stp_the, z_beg_the, z_mst_the, z_lst_the, z_nf_mk, z_inn_mk, z_sup_mk, z_fac_mk, z_las_mk, z_lan_mk, z_fcn_mk, z_fnm_mk, z_acn_mk, z_ak_mk, z_aa_mk, z_ab_mk, z_ofd_mk, z_nl_mk, z_par_mk, z_off_mk, z_the_mk, z_sp_mk, z_fc_mk, z_mad_mk, z_mk_mk, z_abv_mk, z_bt_mk, z_rk_mk, z_nc_mk, z_cl_mk, z_cn_mk, z_cla_mk, z_row_mk, z_stp_mk, z_beg_mk, z_mst_mk, z_lst_mk, z_nf_rk, z_inn_rk, z_sup_rk, z_fac_rk, z_las_rk, z_lan_rk, z_fcn_rk, z_fnm_rk, z_acn_rk, z_ak_rk, z_aa_rk, z_ab_rk, z_ofd_rk, z_nl_rk, z_par_rk, z_off_rk, z_the_rk, z_sp_rk, z_fc_rk, z_mad_rk, z_mk_rk, z_abv_rk, z_bt_rk, z_rk_rk, z_nc_rk, z_cl_rk, z_cn_rk, z_cla_rk, z_row_rk, z_stp_rk, z_beg_rk, z_mst_rk, z_lst_rk, z_nf_mad, z_inn_mad, z_sup_mad, z_fac_mad, z_las_mad, z_lan_mad, z_fcn_mad, z_fnm_mad, z_acn_mad, z_ak_mad, z_aa_mad, z_ab_mad, z_ofd_mad, z_nl_mad, z_par_mad, z_off_mad, z_the_mad, z_sp_mad, z_fc_mad, z_mad_mad, z_mk_mad, z_abv_mad, z_bt_mad, z_rk_mad, z_nc_mad, z_cl_mad, z_cn_mad, z_cla_mad, z_row_mad, z_stp_mad, z_beg_mad, z_mst_mad, z_lst_mad]
    refine ⟨i1, i2, i3, i4, i5, i6, i7, fun a ha => ?_, fun a ha => ?_⟩
    · by_cases e : a = c
      · exact ⟨f, by rw [e]; exact ho⟩
      · rw [if_neg e] at ha
        exact i8 a ha
    · by_cases e : a = c
      · exact ⟨f, by rw [e]; exact ho⟩
      · rw [if_neg e] at ha
        exact i9 a ha
  · intro a ha
    simp only [hU, eL]
    simp only [w_done, z_nf_the, z_inn_the, z_sup_the, z_fac_the, z_las_the, z_lan_the, z_fcn_the, z_fnm_the, z_acn_the, z_ak_the, z_aa_the, z_ab_the, z_ofd_the, z_nl_the, z_par_the, z_off_the, z_the_the, z_sp_the, z_fc_the, z_mad_the, z_mk_the, z_abv_the, z_bt_the, z_rk_the, z_nc_the, z_cl_the, z_cn_the, z_cla_the, z_row_the, z_stp_the, z_beg_the, z_mst_the, z_lst_the, z_nf_mk, z_inn_mk, z_sup_mk, z_fac_mk, z_las_mk, z_lan_mk, z_fcn_mk, z_fnm_mk, z_acn_mk, z_ak_mk, z_aa_mk, z_ab_mk, z_ofd_mk, z_nl_mk, z_par_mk, z_off_mk, z_the_mk, z_sp_mk, z_fc_mk, z_mad_mk, z_mk_mk, z_abv_mk, z_bt_mk, z_rk_mk, z_nc_mk, z_cl_mk, z_cn_mk, z_cla_mk, z_row_mk, z_stp_mk, z_beg_mk, z_mst_mk, z_lst_mk, z_nf_rk, z_inn_rk, z_sup_rk, z_fac_rk, z_las_rk, z_lan_rk, z_fcn_rk, z_fnm_rk, z_acn_rk, z_ak_rk, z_aa_rk, z_ab_rk, z_ofd_rk, z_nl_rk, z_par_rk, z_off_rk, z_the_rk, z_sp_rk, z_fc_rk, z_mad_rk, z_mk_rk, z_abv_rk, z_bt_rk, z_rk_rk, z_nc_rk, z_cl_rk, z_cn_rk, z_cla_rk, z_row_rk, z_stp_rk, z_beg_rk, z_mst_rk, z_lst_rk, z_nf_mad, z_inn_mad, z_sup_mad, z_fac_mad, z_las_mad, z_lan_mad, z_fcn_mad, z_fnm_mad, z_acn_mad, z_ak_mad, z_aa_mad, z_ab_mad, z_ofd_mad, z_nl_mad, z_par_mad, z_off_mad, z_the_mad, z_sp_mad, z_fc_mad, z_mad_mad, z_mk_mad, z_abv_mad, z_bt_mad, z_rk_mad, z_nc_mad, z_cl_mad, z_cn_mad, z_cla_mad, z_row_mad, z_stp_mad, z_beg_mad, z_mst_mad, z_lst_mad] at ha ⊢
    by_cases e : a = c
    · subst e
      simp only [if_true, hUc]
      refine ⟨fun u hu => ?_, m4, m5, m6, Nat.lt_succ_self _, trivial⟩
      obtain ⟨w1, w2⟩ := m3 u hu
      rw [if_neg (ne u w1), if_neg (ne u w1)]
      exact ⟨w1, (hI.2.2 u w1).2.2.2.2.1, w2⟩
    · rw [if_neg e] at ha
      simp only [if_neg e]
      obtain ⟨t1, t2, t3, t4, t5, t6⟩ := hI.2.2 a ha
      refine ⟨fun u hu => ?_, t2, t3, t4, Nat.lt_succ_of_lt t5, t6⟩
      obtain ⟨w1, w2, w3⟩ := t1 u hu
      rw [if_neg (ne u w1), if_neg (ne u w1)]
      exact ⟨w1, w2, w3⟩
