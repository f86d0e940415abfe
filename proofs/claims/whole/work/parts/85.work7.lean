/-! PURE: a turn, and a run, of the methods in work. -/
def popF : List FRM → List FRM
  | [] => []
  | ψ :: u => f_step ψ :: u
def aTurn (σ : SS) (φ : FRM) (t : List FRM) (v : Int64) : SS × List FRM × Int64 × Nat :=
  if f_p φ = f_cnt σ φ then (σ, popF t, v, 0) else
  if z_stp σ = 5000 then (σ, [], v, 16) else
  match aAct σ φ v (φ :: t) with
  | (τ, v', none) => (τ, f_keep (f_step φ) (z_row τ) :: t, v', 0)
  | (τ, v', some (.inl ψ)) => (τ, ψ :: φ :: t, v', 0)
  | (τ, v', some (.inr q)) => (match unw τ q (φ :: t) with
    | none => (τ, [], v', q)
    | some (ψ, u) => (w_row τ (f_snap ψ), f_step ψ :: u, (nI q).toInt64, 0))
def aRun : Nat → SS → List FRM → Int64 → SS × Int64 × Nat
  | 0, σ, _, v => (σ, v, 0)
  | _ + 1, σ, [], v => (σ, v, 0)
  | n + 1, σ, φ :: t, v => (match aTurn σ φ t v with
    | (τ, L, v', 0) => aRun n τ L v'
    | (τ, _, v', q + 1) => (τ, v', q + 1))
def WT (σ : SS) (φ : FRM) : Prop := f_p φ < f_cnt σ φ ∧ (f_kind σ φ (f_p φ) = 5 ∨ f_kind σ φ (f_p φ) = 9)
def FB (σ : SS) (φ : FRM) (t : List FRM) : Prop := FOK σ φ ∧ t.length + 1 + z_abv σ (f_runs φ) ≤ 13 * ncall (φ :: t) ∧ (f_try σ φ = true → IR σ (f_snap φ))
def FA (σ : SS) : List FRM → Prop
  | [] => True
  | φ :: t => FB σ φ t ∧ WT σ φ ∧ FA σ t
def TS (σ : SS) (φ : FRM) : Prop := f_try σ φ = true → ∀ k, k < 40 → f_snap φ k = z_row σ k
def AI (σ : SS) : List FRM → Prop
  | [] => IVR σ
  | φ :: t => IVR σ ∧ FB σ φ t ∧ ncall (φ :: t) ≤ 8 ∧ TS σ φ ∧ FA σ t
theorem AI_IVR {σ : SS} {L : List FRM} (h : AI σ L) : IVR σ := by
  cases L with
  | nil => exact h
  | cons φ t => exact h.1
theorem FA_all {σ : SS} : ∀ t, FA σ t → ∀ ψ ∈ t, FOK σ ψ := by
  intro t
  induction t with
  | nil => intro _ ψ h; cases h
  | cons φ t ih =>
    intro h ψ hψ
    rcases List.mem_cons.mp hψ with rfl | h'
    · exact h.1.1
    · exact ih h.2.2 ψ h'
theorem AI_all {σ : SS} {φ : FRM} {t : List FRM} (h : AI σ (φ :: t)) : ∀ ψ ∈ φ :: t, FOK σ ψ := by
  intro ψ hψ
  rcases List.mem_cons.mp hψ with rfl | h'
  · exact h.2.1.1
  · exact FA_all t h.2.2.2.2 ψ h'
theorem FB_st {σ τ : SS} {φ : FRM} {t : List FRM} (hz : tZ σ τ) (ho : FOK τ φ) (ha : z_abv τ (f_runs φ) = z_abv σ (f_runs φ)) (h : FB σ φ t) : FB τ φ t := by
  obtain ⟨h1, h2, h3⟩ := h
  exact ⟨ho, by rw [ha]; exact h2, fun z => IR_st hz.2.1 (h3 (by rw [← f_try_st hz]; exact z))⟩
theorem WT_st {σ τ : SS} {φ : FRM} (hz : tZ σ τ) (h : WT σ φ) : WT τ φ := by
  unfold WT
  rw [f_cnt_st hz, f_kind_st hz]
  exact h
theorem FA_st {σ τ : SS} (hz : tZ σ τ) : ∀ t, (∀ ψ ∈ t, FOK τ ψ ∧ z_abv τ (f_runs ψ) = z_abv σ (f_runs ψ)) → FA σ t → FA τ t := by
  intro t
  induction t with
  | nil => intro _ _; trivial
  | cons φ t ih =>
    intro h hF
    obtain ⟨q1, q2⟩ := h φ List.mem_cons_self
    exact ⟨FB_st hz q1 q2 hF.1, WT_st hz hF.2.1, ih (fun ψ hψ => h ψ (List.mem_cons_of_mem _ hψ)) hF.2.2⟩
theorem f_try_step {σ : SS} {φ : FRM} (h : ¬ f_kind σ φ (f_p φ) = 11) : f_try σ (f_step φ) = false := by
  unfold f_try
  rw [decide_eq_false_iff_not]
  intro z
  exact h z.2.2
theorem f_try_0 {σ : SS} {φ : FRM} (h : f_p φ = 0) : f_try σ φ = false := by
  unfold f_try
  rw [decide_eq_false_iff_not]
  intro z
  omega
theorem WT_n11 {σ : SS} {φ : FRM} (h : WT σ φ) : ¬ f_kind σ φ (f_p φ) = 11 := by
  rcases h.2 with z | z <;> rw [z] <;> decide
theorem FB_step {σ : SS} {φ : FRM} {t : List FRM} (h : FB σ φ t) (hp : f_p φ < f_cnt σ φ) (hk : ¬ f_kind σ φ (f_p φ) = 11) : FB σ (f_step φ) t := by
  obtain ⟨⟨a1, a2, a3, a4, a5, a6⟩, h2, h3⟩ := h
  refine ⟨⟨a1, a2, a3, a4, a5, hp⟩, h2, fun z => ?_⟩
  rw [f_try_step hk] at z
  cases z
theorem AI_pop {σ : SS} {t : List FRM} (hV : IVR σ) (h8 : ncall t ≤ 8) (h : FA σ t) : AI σ (popF t) := by
  cases t with
  | nil => exact hV
  | cons ψ u =>
    refine ⟨hV, FB_step h.1 h.2.1.1 (WT_n11 h.2.1), h8, fun z => ?_, h.2.2⟩
    rw [f_try_step (WT_n11 h.2.1)] at z
    cases z
theorem popF_len (t : List FRM) : (popF t).length = t.length := by cases t <;> rfl
theorem unw_split {σ : SS} {q : Nat} {ψ : FRM} {u : List FRM} : ∀ L, unw σ q L = some (ψ, u) → f_try σ ψ = true ∧ u.length + 1 ≤ L.length ∧ ncall (ψ :: u) ≤ ncall L ∧ ∃ pre, L = pre ++ ψ :: u := by
  intro L
  induction L with
  | nil => intro h; cases h
  | cons φ t ih =>
    intro h
    rw [unw] at h
    split at h
    · rename_i hc
      cases h
      exact ⟨hc.2, by simp, Nat.le_refl _, [], rfl⟩
    · obtain ⟨a1, a2, a3, pre, a4⟩ := ih h
      have := ncall_cons φ t
      exact ⟨a1, by simp only [List.length_cons]; omega, by omega, φ :: pre, by rw [a4]; rfl⟩
theorem FA_app {σ : SS} {L : List FRM} : ∀ pre, FA σ (pre ++ L) → FA σ L := by
  intro pre
  induction pre with
  | nil => exact id
  | cons φ t ih => exact fun h => ih h.2.2
/-- of what holds a failure -/
theorem unw_ok {σ : SS} {q : Nat} {φ ψ : FRM} {t u : List FRM} (hφ : FB σ φ t) (hk : ¬ f_kind σ φ (f_p φ) = 11) (hF : FA σ t) (h : unw σ q (φ :: t) = some (ψ, u)) : FB σ ψ u ∧ f_p ψ < f_cnt σ ψ ∧ ¬ f_kind σ ψ (f_p ψ) = 11 ∧ FA σ u ∧ f_try σ ψ = true ∧ u.length ≤ t.length ∧ ncall (ψ :: u) ≤ ncall (φ :: t) := by
  obtain ⟨a1, a2, a3, pre, a4⟩ := unw_split _ h
  have hp : f_p ψ < f_cnt σ ψ := by
    have := a1
    unfold f_try at this
    rw [decide_eq_true_iff] at this
    exact this.2.1
  simp only [List.length_cons] at a2
  cases pre with
  | nil =>
    simp only [List.nil_append, List.cons.injEq] at a4
    obtain ⟨rfl, rfl⟩ := a4
    exact ⟨hφ, hp, hk, hF, a1, by omega, a3⟩
  | cons χ pre =>
    simp only [List.cons_append, List.cons.injEq] at a4
    obtain ⟨rfl, rfl⟩ := a4
    have := FA_app pre hF
    exact ⟨this.1, hp, WT_n11 this.2.1, this.2.2, a1, by omega, a3⟩
theorem tZ_row (σ : SS) (ρ : Nat → Int64) : tZ σ (w_row σ ρ) := ⟨(by simp only [tF, tF, z_nf_row, z_inn_row, z_sup_row, z_fac_row, z_las_row, z_lan_row, z_fcn_row, z_fnm_row, z_acn_row, z_ak_row, z_aa_row, z_ab_row, z_ofd_row, z_nl_row, z_par_row, z_off_row, z_the_row, z_sp_row, z_fc_row, z_mad_row, z_mk_row, z_abv_row, z_bt_row, z_rk_row, z_nc_row, z_cl_row, z_cn_row, z_cla_row, z_row_row, z_stp_row, z_beg_row, z_mst_row, z_lst_row, and_self]), (by simp only [tC, tC, z_nf_row, z_inn_row, z_sup_row, z_fac_row, z_las_row, z_lan_row, z_fcn_row, z_fnm_row, z_acn_row, z_ak_row, z_aa_row, z_ab_row, z_ofd_row, z_nl_row, z_par_row, z_off_row, z_the_row, z_sp_row, z_fc_row, z_mad_row, z_mk_row, z_abv_row, z_bt_row, z_rk_row, z_nc_row, z_cl_row, z_cn_row, z_cla_row, z_row_row, z_stp_row, z_beg_row, z_mst_row, z_lst_row, and_self]), by simp only [z_nf_row, z_inn_row, z_sup_row, z_fac_row, z_las_row, z_lan_row, z_fcn_row, z_fnm_row, z_acn_row, z_ak_row, z_aa_row, z_ab_row, z_ofd_row, z_nl_row, z_par_row, z_off_row, z_the_row, z_sp_row, z_fc_row, z_mad_row, z_mk_row, z_abv_row, z_bt_row, z_rk_row, z_nc_row, z_cl_row, z_cn_row, z_cla_row, z_row_row, z_stp_row, z_beg_row, z_mst_row, z_lst_row]⟩
theorem IVR_row {σ : SS} {ρ : Nat → Int64} (h : IVR σ) (hr : IR σ ρ) : IVR (w_row σ ρ) := by
  obtain ⟨h1, h2, h3, h4, h5, h6⟩ := h
  have hz := tZ_row σ ρ
  have sl : tL σ (w_row σ ρ) := (by simp only [tL, tL, z_nf_row, z_inn_row, z_sup_row, z_fac_row, z_las_row, z_lan_row, z_fcn_row, z_fnm_row, z_acn_row, z_ak_row, z_aa_row, z_ab_row, z_ofd_row, z_nl_row, z_par_row, z_off_row, z_the_row, z_sp_row, z_fc_row, z_mad_row, z_mk_row, z_abv_row, z_bt_row, z_rk_row, z_nc_row, z_cl_row, z_cn_row, z_cla_row, z_row_row, z_stp_row, z_beg_row, z_mst_row, z_lst_row, and_self])
  refine ⟨⟨IF_st hz.1 h1.1, IL_st hz.1 sl h1.2.1, IT_st hz.1.2.2.2.2.2.2.1 sl h1.2.2⟩, IC_st sl.1 hz.2.1 h2, ?_, ?_, ?_, IA_st hz.1 h6⟩
  · have e : z_row (w_row σ ρ) = ρ := by simp only [z_nf_row, z_inn_row, z_sup_row, z_fac_row, z_las_row, z_lan_row, z_fcn_row, z_fnm_row, z_acn_row, z_ak_row, z_aa_row, z_ab_row, z_ofd_row, z_nl_row, z_par_row, z_off_row, z_the_row, z_sp_row, z_fc_row, z_mad_row, z_mk_row, z_abv_row, z_bt_row, z_rk_row, z_nc_row, z_cl_row, z_cn_row, z_cla_row, z_row_row, z_stp_row, z_beg_row, z_mst_row, z_lst_row]
    rw [e]
    exact IR_st hz.2.1 hr
  · rw [sl.2.2.2.2.2.2.2.1]; exact h4
  · simp only [z_nf_row, z_inn_row, z_sup_row, z_fac_row, z_las_row, z_lan_row, z_fcn_row, z_fnm_row, z_acn_row, z_ak_row, z_aa_row, z_ab_row, z_ofd_row, z_nl_row, z_par_row, z_off_row, z_the_row, z_sp_row, z_fc_row, z_mad_row, z_mk_row, z_abv_row, z_bt_row, z_rk_row, z_nc_row, z_cl_row, z_cn_row, z_cla_row, z_row_row, z_stp_row, z_beg_row, z_mst_row, z_lst_row]; exact h5
theorem FOK_row {σ : SS} {ρ : Nat → Int64} {φ : FRM} (h : FOK σ φ) : FOK (w_row σ ρ) φ ∧ z_abv (w_row σ ρ) (f_runs φ) = z_abv σ (f_runs φ) := by
  refine ⟨FOK_st (tZ_row σ ρ) (fun c hc => ?_) ?_ h, ?_⟩ <;> simp only [z_nf_row, z_inn_row, z_sup_row, z_fac_row, z_las_row, z_lan_row, z_fcn_row, z_fnm_row, z_acn_row, z_ak_row, z_aa_row, z_ab_row, z_ofd_row, z_nl_row, z_par_row, z_off_row, z_the_row, z_sp_row, z_fc_row, z_mad_row, z_mk_row, z_abv_row, z_bt_row, z_rk_row, z_nc_row, z_cl_row, z_cn_row, z_cla_row, z_row_row, z_stp_row, z_beg_row, z_mst_row, z_lst_row]
  exact hc
/-- what the next turns may still be -/
def mea (σ : SS) (L : List FRM) : Nat := 2 * (5000 - z_stp σ) + L.length
/-- what a turn keeps -/
def TK (σ τ : SS) : Prop := tZ σ τ ∧ z_lst τ = z_lst σ
theorem TK_trans {σ τ υ : SS} (h : TK σ τ) (h2 : TK τ υ) : TK σ υ := ⟨tZ_trans h.1 h2.1, h2.2.trans h.2⟩
theorem aTurn_ok {σ τ : SS} {φ : FRM} {t L : List FRM} {v v' : Int64} {q : Nat} (h : AI σ (φ :: t)) (e : aTurn σ φ t v = (τ, L, v', q)) : TK σ τ ∧ IVR τ ∧ q < 100 ∧ (q = 0 → AI τ L ∧ mea τ L + 1 ≤ mea σ (φ :: t)) := by
  obtain ⟨hV, hB, h8, hTS, hF⟩ := h
  have hO := AI_all (σ := σ) (φ := φ) (t := t) ⟨hV, hB, h8, hTS, hF⟩
  have hn := ncall_cons φ t
  have hp := hB.1.2.2.2.2.2
  have hs5 := hV.2.2.2.2.1
  unfold aTurn at e
  by_cases e1 : f_p φ = f_cnt σ φ
  · rw [if_pos e1] at e
    cases e
    refine ⟨⟨tZ_refl σ, rfl⟩, hV, by omega, fun _ => ⟨AI_pop hV (by omega) hF, ?_⟩⟩
    simp only [mea, popF_len, List.length_cons]
    omega
  · rw [if_neg e1] at e
    by_cases e2 : z_stp σ = 5000
    · rw [if_pos e2] at e
      cases e
      exact ⟨⟨tZ_refl σ, rfl⟩, hV, by omega, fun z => by cases z⟩
    · rw [if_neg e2] at e
      cases ea : aAct σ φ v (φ :: t) with
      | mk υ x =>
        obtain ⟨w, r⟩ := x
        rw [ea] at e
        obtain ⟨hA, hP, hQ⟩ := aAct_inv hV (by omega) hO List.mem_cons_self (by omega) ea
        obtain ⟨z1, z2, z3, z4, z5, z6, z7⟩ := hA
        have hK : TK σ υ := ⟨z1, z4⟩
        have hFt : FA υ t := FA_st z1 t (fun ψ hψ => z7 ψ (List.mem_cons_of_mem _ hψ)) hF
        obtain ⟨o1, o2⟩ := z7 φ List.mem_cons_self
        have hBφ := FB_st z1 o1 o2 hB
        have hpl : f_p φ < f_cnt υ φ := by rw [f_cnt_st z1]; omega
        match r with
        | none =>
          cases e
          refine ⟨hK, z2, by omega, fun _ => ⟨⟨z2, ⟨⟨o1.1, o1.2.1, o1.2.2.1, o1.2.2.2.1, o1.2.2.2.2.1, hpl⟩, hBφ.2.1, fun _ => z2.2.2.1⟩, h8, fun _ _ _ => rfl, hFt⟩, ?_⟩⟩
          simp only [mea, List.length_cons, z3]
          omega
        | some (.inl ψ) =>
          cases e
          obtain ⟨p1, p2, p3, p4⟩ := hP ψ rfl
          have hnψ := ncall_cons ψ (φ :: t)
          have h12 := (z2.1.2.2 _ p1.2.2.1).2.2.2.1
          have hB2 := hBφ.2.1
          refine ⟨hK, z2, by omega, fun _ => ⟨⟨z2, ⟨p1, ?_, fun z => by rw [f_try_0 p2] at z; cases z⟩, ?_, fun z => (by rw [f_try_0 p2] at z; cases z), hBφ, ⟨hpl, ?_⟩, hFt⟩, ?_⟩⟩
          · simp only [List.length_cons]
            rcases p3 with ⟨c1, c2⟩ | ⟨c1, c2⟩
            · rw [c1, if_pos rfl] at hnψ
              omega
            · rw [c1, if_neg (by decide)] at hnψ
              omega
          · rcases p3 with ⟨c1, c2⟩ | ⟨c1, c2⟩
            · rw [c1, if_pos rfl] at hnψ
              omega
            · rw [c1, if_neg (by decide)] at hnψ
              omega
          · rw [f_kind_st z1]; exact p4
          · simp only [mea, List.length_cons, z3]
            omega
        | some (.inr q0) =>
          obtain ⟨p1, p2, p3⟩ := hQ q0 rfl
          dsimp only at e
          cases eu : unw υ q0 (φ :: t) with
          | none =>
            rw [eu] at e
            cases e
            exact ⟨hK, z2, p2, fun z => by omega⟩
          | some x =>
            obtain ⟨ψ, u⟩ := x
            rw [eu] at e
            cases e
            obtain ⟨u1, u2, u3, u4, u5, u6, u7⟩ := unw_ok hBφ (by rw [f_kind_st z1]; exact p3) hFt eu
            have hz := tZ_row υ (f_snap ψ)
            have hVr := IVR_row z2 (u1.2.2 u5)
            have k2 : ¬ f_kind (w_row υ (f_snap ψ)) ψ (f_p ψ) = 11 := by rw [f_kind_st hz]; exact u3
            obtain ⟨g1, g2⟩ := FOK_row (ρ := f_snap ψ) u1.1
            refine ⟨TK_trans hK ⟨hz, by simp only [z_nf_row, z_inn_row, z_sup_row, z_fac_row, z_las_row, z_lan_row, z_fcn_row, z_fnm_row, z_acn_row, z_ak_row, z_aa_row, z_ab_row, z_ofd_row, z_nl_row, z_par_row, z_off_row, z_the_row, z_sp_row, z_fc_row, z_mad_row, z_mk_row, z_abv_row, z_bt_row, z_rk_row, z_nc_row, z_cl_row, z_cn_row, z_cla_row, z_row_row, z_stp_row, z_beg_row, z_mst_row, z_lst_row]⟩, hVr, by omega, fun _ => ⟨⟨hVr, FB_step (FB_st hz g1 g2 u1) (by rw [f_cnt_st hz]; exact u2) k2, ?_, fun z => ?_, FA_st hz u (fun χ hχ => FOK_row (FA_all u u4 χ hχ)) u4⟩, ?_⟩⟩
            · have : ncall (f_step ψ :: u) = ncall (ψ :: u) := rfl
              omega
            · rw [f_try_step k2] at z
              cases z
            · simp only [mea, List.length_cons, z3, z_nf_row, z_inn_row, z_sup_row, z_fac_row, z_las_row, z_lan_row, z_fcn_row, z_fnm_row, z_acn_row, z_ak_row, z_aa_row, z_ab_row, z_ofd_row, z_nl_row, z_par_row, z_off_row, z_the_row, z_sp_row, z_fc_row, z_mad_row, z_mk_row, z_abv_row, z_bt_row, z_rk_row, z_nc_row, z_cl_row, z_cn_row, z_cla_row, z_row_row, z_stp_row, z_beg_row, z_mst_row, z_lst_row]
              omega
theorem aRun_ok : ∀ n (σ τ : SS) (L : List FRM) (v v' : Int64) (q : Nat), AI σ L → aRun n σ L v = (τ, v', q) → TK σ τ ∧ IVR τ ∧ q < 100 := by
  intro n
  induction n with
  | zero =>
    intro σ τ L v v' q h e
    cases e
    exact ⟨⟨tZ_refl σ, rfl⟩, AI_IVR h, by omega⟩
  | succ n ih =>
    intro σ τ L v v' q h e
    cases L with
    | nil =>
      cases e
      exact ⟨⟨tZ_refl σ, rfl⟩, h, by omega⟩
    | cons φ t =>
      rw [aRun] at e
      obtain ⟨υ, L2, w, q2, et⟩ : ∃ υ L2 w q2, aTurn σ φ t v = (υ, L2, w, q2) := ⟨_, _, _, _, rfl⟩
      rw [et] at e
      obtain ⟨k1, k2, k3, k4⟩ := aTurn_ok h et
      cases q2 with
      | zero =>
        dsimp only at e
        obtain ⟨j1, j2, j3⟩ := ih υ τ L2 w v' q (k4 rfl).1 e
        exact ⟨TK_trans k1 j1, j2, j3⟩
      | succ q2 =>
        cases e
        exact ⟨k1, k2, k3⟩
