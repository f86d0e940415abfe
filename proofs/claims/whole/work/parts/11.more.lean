section XR
variable {p : Program} {l : Launch} {e : Env} {R : Room} {s : State} {m : MethodId} {args : Array Value} {below : List Frame} {meth : Method} {c : Code} {Q : State → Prop}
variable {cc : ByteArray} {nL : Nat} {own : String} {D : DX} {b0 : Nat} {M0 : XM} {r0 : Nat → Nat → Nat} {pc : Nat}

def i_acpL (k1 n1 k2 n2 : Nat) (K : XK) : XK := fun ls st M bc bs => match st with
  | .inl n :: .inl dp :: .inr (.inr (.inr (kb, ob))) :: .inl sp :: .inr (.inr (.inr (ka, oa))) :: st => ka = k1 ∧ kb = k2 ∧ ¬ sp < 0 ∧ ¬ dp < 0 ∧ ¬ n < 0 ∧ sp.toNatClampNeg + n.toNatClampNeg ≤ n1 ∧ dp.toNatClampNeg + n.toNatClampNeg ≤ n2 ∧ xsum st ≤ 8 ∧ ∃ i, oa = some i ∧ ∃ i2, ob = some i2 ∧ K ls st (cL M (100 * (k1 + 1)) i (100 * (k2 + 1)) i2 sp.toNatClampNeg dp.toNatClampNeg n.toNatClampNeg) bc bs
  | _ => False
theorem s_acpL {k1 n1 k2 n2 index : Nat} (C : xC p s m args meth c cc nL own D b0) (hd : decode cc pc = .ok (.invokestatic index, 3)) (hk1 : ¬ k1 < 10 ∧ ¬ k1 = 99) (ha1 : xAk k1 = (1, n1, 0, 1)) (hk2 : ¬ k2 < 10 ∧ ¬ k2 = 99) (ha2 : xAk k2 = (1, n2, 0, 1)) (hl : Cond.methodLink own index arraycopyName ∈ wsG) (hna : Cond.native arraycopyName ∈ wsG) (hst : Cond.static arraycopyName ∈ wsG) (hin : Cond.initialized "java/lang/System" ∈ wsG) (hf : 1 ≤ R.frames) (hL : 48 ≤ R.locals) (ls st M bc bs) (h : i_acpL k1 n1 k2 n2 (xAt p l e R s m args below meth c Q D b0 nL M0 r0 (pc + 3)) ls st M bc bs) : xAt p l e R s m args below meth c Q D b0 nL M0 r0 pc ls st M bc bs := by
  unfold i_acpL at h
  split at h
  · next n dp kb ob sp ka oa st0 =>
    obtain ⟨rfl, rfl, hsp, hdp, hn, hb1, hb2, hsum, i, rfl, i2, rfl, h⟩ := h
    intro r H locs cells slots als hS
    have hS2 := hS.2.2.2.2
    have hts := C.2.2.2.2.1
    obtain ⟨ks, hks, hPw, hDw⟩ := hS.2.1
    obtain ⟨z1, hz1, hw1⟩ := xW_at (D := D) (r := r) (M := M) ((hks ka i).mp ⟨xhead (xtail (xtail (xtail (xtail hS2.1)))), hk1.2⟩)
    obtain ⟨z2, hz2, hw2⟩ := xW_at (D := D) (r := r) (M := M) ((hks kb i2).mp ⟨xhead (xtail (xtail hS2.1)), hk2.2⟩)
    rw [xE_L hk1.1 ha1] at hw1
    rw [xE_L hk2.1 ha2] at hw2
    have hnf : nativeFrameWords "java/lang/System" "arraycopy" 5 + 11 ≤ 40 := by decide +kernel
    refine va_copyl C.1 C.2.1 (by rw [C.2.2.1]; exact hS.1.1.symm) C.2.2.2.1 (hts _ hl) (hts _ hna) (hts _ hst) (hts _ hin) C.2.2.2.2.2.1.1 hPw hDw hS2.2.1 z1 z2 1 1 hw1 hw2 rfl rfl rfl hsp hdp hn hb1 hb2 (fun _ _ => rfl) hf (by rw [xsum_ok]; omega) hd (fun H1 locs1 hP1 hD1 hS1 => ?_)
    have hsub : ∀ v ∈ st0, v ∈ (vI n :: vI dp :: vR kb (some i2) :: vI sp :: vR ka (some i) :: st0) := fun v hv => by simp [hv]
    refine h r H1 locs1 cells slots als (xSt_put hS hsub (fun _ _ => rfl) (xwf_same hS.2.2.1 (fun _ _ => rfl) (fun _ _ _ => rfl)) (xP_set hks hDw hz2 (xOth_cL M (100 * (ka + 1)) i i2 sp.toNatClampNeg dp.toNatClampNeg n.toNatClampNeg (by omega)) (fun _ _ => rfl) ?_ hP1 hD1) hS1)
    rw [xE_L hk2.1 ha2]
    congr 5
    funext q
    rw [gL_cL]
    unfold va_cpy
    by_cases hq : dp.toNatClampNeg ≤ q ∧ q < dp.toNatClampNeg + n.toNatClampNeg
    · rw [if_pos hq, if_pos ⟨rfl, rfl, hq.1, hq.2⟩]
    · rw [if_neg hq, if_neg (fun z => hq ⟨z.2.2.1, z.2.2.2⟩)]
  · exact h.elim
def i_acpD (k1 n1 k2 n2 : Nat) (K : XK) : XK := fun ls st M bc bs => match st with
  | .inl n :: .inl dp :: .inr (.inr (.inr (kb, ob))) :: .inl sp :: .inr (.inr (.inr (ka, oa))) :: st => ka = k1 ∧ kb = k2 ∧ ¬ sp < 0 ∧ ¬ dp < 0 ∧ ¬ n < 0 ∧ sp.toNatClampNeg + n.toNatClampNeg ≤ n1 ∧ dp.toNatClampNeg + n.toNatClampNeg ≤ n2 ∧ xsum st ≤ 8 ∧ ∃ i, oa = some i ∧ ∃ i2, ob = some i2 ∧ K ls st (cD M (100 * (k1 + 1)) i (100 * (k2 + 1)) i2 sp.toNatClampNeg dp.toNatClampNeg n.toNatClampNeg) bc bs
  | _ => False
theorem s_acpD {k1 n1 k2 n2 index : Nat} (C : xC p s m args meth c cc nL own D b0) (hd : decode cc pc = .ok (.invokestatic index, 3)) (hk1 : ¬ k1 < 10 ∧ ¬ k1 = 99) (ha1 : xAk k1 = (2, n1, 0, 2)) (hk2 : ¬ k2 < 10 ∧ ¬ k2 = 99) (ha2 : xAk k2 = (2, n2, 0, 2)) (hl : Cond.methodLink own index arraycopyName ∈ wsG) (hna : Cond.native arraycopyName ∈ wsG) (hst : Cond.static arraycopyName ∈ wsG) (hin : Cond.initialized "java/lang/System" ∈ wsG) (hf : 1 ≤ R.frames) (hL : 48 ≤ R.locals) (ls st M bc bs) (h : i_acpD k1 n1 k2 n2 (xAt p l e R s m args below meth c Q D b0 nL M0 r0 (pc + 3)) ls st M bc bs) : xAt p l e R s m args below meth c Q D b0 nL M0 r0 pc ls st M bc bs := by
  unfold i_acpD at h
  split at h
  · next n dp kb ob sp ka oa st0 =>
    obtain ⟨rfl, rfl, hsp, hdp, hn, hb1, hb2, hsum, i, rfl, i2, rfl, h⟩ := h
    intro r H locs cells slots als hS
    have hS2 := hS.2.2.2.2
    have hts := C.2.2.2.2.1
    obtain ⟨ks, hks, hPw, hDw⟩ := hS.2.1
    obtain ⟨z1, hz1, hw1⟩ := xW_at (D := D) (r := r) (M := M) ((hks ka i).mp ⟨xhead (xtail (xtail (xtail (xtail hS2.1)))), hk1.2⟩)
    obtain ⟨z2, hz2, hw2⟩ := xW_at (D := D) (r := r) (M := M) ((hks kb i2).mp ⟨xhead (xtail (xtail hS2.1)), hk2.2⟩)
    rw [xE_D hk1.1 ha1] at hw1
    rw [xE_D hk2.1 ha2] at hw2
    have hnf : nativeFrameWords "java/lang/System" "arraycopy" 5 + 11 ≤ 40 := by decide +kernel
    refine va_copyd C.1 C.2.1 (by rw [C.2.2.1]; exact hS.1.1.symm) C.2.2.2.1 (hts _ hl) (hts _ hna) (hts _ hst) (hts _ hin) C.2.2.2.2.2.1.1 hPw hDw hS2.2.1 z1 z2 2 2 hw1 hw2 rfl rfl rfl hsp hdp hn hb1 hb2 (fun _ _ => rfl) hf (by rw [xsum_ok]; omega) hd (fun H1 locs1 hP1 hD1 hS1 => ?_)
    have hsub : ∀ v ∈ st0, v ∈ (vI n :: vI dp :: vR kb (some i2) :: vI sp :: vR ka (some i) :: st0) := fun v hv => by simp [hv]
    refine h r H1 locs1 cells slots als (xSt_put hS hsub (fun _ _ => rfl) (xwf_same hS.2.2.1 (fun _ _ => rfl) (fun _ _ _ => rfl)) (xP_set hks hDw hz2 (xOth_cD M (100 * (ka + 1)) i i2 sp.toNatClampNeg dp.toNatClampNeg n.toNatClampNeg (by omega)) (fun _ _ => rfl) ?_ hP1 hD1) hS1)
    rw [xE_D hk2.1 ha2]
    congr 7
    funext q
    rw [gD_cD]
    unfold va_cpy
    by_cases hq : dp.toNatClampNeg ≤ q ∧ q < dp.toNatClampNeg + n.toNatClampNeg
    · rw [if_pos hq, if_pos ⟨rfl, rfl, hq.1, hq.2⟩]
    · rw [if_neg hq, if_neg (fun z => hq ⟨z.2.2.1, z.2.2.2⟩)]
  · exact h.elim
def i_max (K : XK) : XK := fun ls st M bc bs => match st with
  | .inl y :: .inl x :: st => xsum st ≤ 8 ∧ K ls (vI (if x < y then y else x) :: st) M bc bs
  | _ => False
theorem s_max {index : Nat} (C : xC p s m args meth c cc nL own D b0) (hd : decode cc pc = .ok (.invokestatic index, 3)) (hl : Cond.methodLink own index Lib.Math.max.name ∈ wsG) (hst : Cond.static Lib.Math.max.name ∈ wsG) (hin : Cond.initialized "java/lang/Math" ∈ wsG) (hco : Cond.code Lib.Math.max.name Lib.Math.max.code 2 (some .int) ∈ wsG) (hf : 1 ≤ R.frames) (hL : 48 ≤ R.locals) (ls st M bc bs) (h : i_max (xAt p l e R s m args below meth c Q D b0 nL M0 r0 (pc + 3)) ls st M bc bs) : xAt p l e R s m args below meth c Q D b0 nL M0 r0 pc ls st M bc bs := by
  unfold i_max at h
  split at h
  · next y x st0 =>
    obtain ⟨hsum, h⟩ := h
    intro r H locs cells slots als hS
    have hS2 := hS.2.2.2.2
    have hts := C.2.2.2.2.1
    exact va_mmax C.1 C.2.1 (by rw [C.2.2.1]; exact hS.1.1.symm) C.2.2.2.1 (hts _ hl) (hts _ hst) (hts _ hin) (hts _ hco) hf (by rw [xsum_ok]; omega) (by have := hS2.2.2.1; omega) (by have := hS2.2.2.2.1; omega) hd (h r H locs cells slots als ⟨hS.1, hS.2.1, hS.2.2.1, hS.2.2.2.1, xcons trivial (xtail (xtail hS2.1)), hS2.2⟩)
  · exact h.elim
def i_d2b (K : XK) : XK := fun ls st M bc bs => match st with
  | .inr (.inr (.inl x)) :: st => xsum st ≤ 8 ∧ K ls (vL x.toInt64 :: st) M bc bs
  | _ => False
theorem s_d2b {index : Nat} (C : xC p s m args meth c cc nL own D b0) (hd : decode cc pc = .ok (.invokestatic index, 3)) (hl : Cond.methodLink own index ⟨"java/lang/Double", "doubleToRawLongBits", "(D)J"⟩ ∈ wsG) (hna : Cond.native ⟨"java/lang/Double", "doubleToRawLongBits", "(D)J"⟩ ∈ wsG) (hst : Cond.static ⟨"java/lang/Double", "doubleToRawLongBits", "(D)J"⟩ ∈ wsG) (hin : Cond.initialized "java/lang/Double" ∈ wsG) (hf : 1 ≤ R.frames) (hL : 48 ≤ R.locals) (ls st M bc bs) (h : i_d2b (xAt p l e R s m args below meth c Q D b0 nL M0 r0 (pc + 3)) ls st M bc bs) : xAt p l e R s m args below meth c Q D b0 nL M0 r0 pc ls st M bc bs := by
  unfold i_d2b at h
  split at h
  · next x st0 =>
    obtain ⟨hsum, h⟩ := h
    intro r H locs cells slots als hS
    have hS2 := hS.2.2.2.2
    have hts := C.2.2.2.2.1
    exact vn_d2l C.1 C.2.1 (by rw [C.2.2.1]; exact hS.1.1.symm) C.2.2.2.1 (hts _ hl) (hts _ hna) (hts _ hst) (hts _ hin) hf (by rw [xsum_ok]; omega) hd (h r H locs cells slots als ⟨hS.1, hS.2.1, hS.2.2.1, hS.2.2.2.1, xcons trivial (xtail hS2.1), hS2.2⟩)
  · exact h.elim
def i_b2d (K : XK) : XK := fun ls st M bc bs => match st with
  | .inr (.inl x) :: st => xsum st ≤ 8 ∧ vn_snl2d x = false ∧ K ls (vD x.toUInt64 :: st) M bc bs
  | _ => False
theorem s_b2d {index : Nat} (C : xC p s m args meth c cc nL own D b0) (hd : decode cc pc = .ok (.invokestatic index, 3)) (hl : Cond.methodLink own index ⟨"java/lang/Double", "longBitsToDouble", "(J)D"⟩ ∈ wsG) (hna : Cond.native ⟨"java/lang/Double", "longBitsToDouble", "(J)D"⟩ ∈ wsG) (hst : Cond.static ⟨"java/lang/Double", "longBitsToDouble", "(J)D"⟩ ∈ wsG) (hin : Cond.initialized "java/lang/Double" ∈ wsG) (hf : 1 ≤ R.frames) (hL : 48 ≤ R.locals) (ls st M bc bs) (h : i_b2d (xAt p l e R s m args below meth c Q D b0 nL M0 r0 (pc + 3)) ls st M bc bs) : xAt p l e R s m args below meth c Q D b0 nL M0 r0 pc ls st M bc bs := by
  unfold i_b2d at h
  split at h
  · next x st0 =>
    obtain ⟨hsum, hnn, h⟩ := h
    intro r H locs cells slots als hS
    have hS2 := hS.2.2.2.2
    have hts := C.2.2.2.2.1
    exact vn_l2d C.1 C.2.1 (by rw [C.2.2.1]; exact hS.1.1.symm) C.2.2.2.1 (hts _ hl) (hts _ hna) (hts _ hst) (hts _ hin) hnn hf (by rw [xsum_ok]; omega) hd (h r H locs cells slots als ⟨hS.1, hS.2.1, hS.2.2.1, hS.2.2.2.1, xcons trivial (xtail hS2.1), hS2.2⟩)
  · exact h.elim
/-- a switch over lo, lo + 1, .. -/
def xsw (x : Int32) (ls : List (Nat × XV)) (st : List XV) (M : XM) (bc bs : Nat) (Kd : XK) : Int → List XK → Prop
  | _, [] => Kd ls st M bc bs
  | lo, K :: t => (x.toInt = lo → K ls st M bc bs) ∧ (¬ x.toInt = lo → xsw x ls st M bc bs Kd (lo + 1) t)
theorem xsw_in {x : Int32} {ls : List (Nat × XV)} {st : List XV} {M : XM} {bc bs : Nat} {Kd : XK} (Ks : List XK) : ∀ (lo : Int), xsw x ls st M bc bs Kd lo Ks → (∀ (j : Nat) (K : XK), Ks[j]? = some K → x.toInt = lo + j → K ls st M bc bs) ∧ (x.toInt < lo ∨ lo + Ks.length ≤ x.toInt → Kd ls st M bc bs) := by
  induction Ks with
  | nil =>
    intro lo h
    exact ⟨fun j K hj => by simp at hj, fun _ => h⟩
  | cons K0 t ih =>
    intro lo h
    obtain ⟨h1, h2⟩ := h
    refine ⟨fun j K hj hx => ?_, fun hx => ?_⟩
    · cases j with
      | zero =>
        simp at hj
        subst hj
        exact h1 (by simpa using hx)
      | succ j =>
        have hn : ¬ x.toInt = lo := by omega
        exact (ih _ (h2 hn)).1 j K (by simpa using hj) (by omega)
    · have hn : ¬ x.toInt = lo := by
        simp at hx
        omega
      refine (ih _ (h2 hn)).2 ?_
      simp at hx
      omega
def i_tsw (lo : Int) (Ks : List XK) (Kd : XK) : XK := fun ls st M bc bs => match st with
  | .inl x :: st => xsw x ls st M bc bs Kd lo Ks
  | _ => False
theorem s_tsw {dflt lo hi : Int} {offs : Array Int} {len tgd : Nat} {tgs : List Nat} (C : xC p s m args meth c cc nL own D b0) (hd : decode cc pc = .ok (.tableswitch dflt lo hi offs, len)) (hdf : (pc : Int) + dflt = (tgd : Int)) (hhi : hi + 1 = lo + tgs.length) (hof : offs.toList.map (fun o => (pc : Int) + o) = tgs.map (fun (t : Nat) => (t : Int))) (ls st M bc bs) (h : i_tsw lo (tgs.map (fun t => xAt p l e R s m args below meth c Q D b0 nL M0 r0 t)) (xAt p l e R s m args below meth c Q D b0 nL M0 r0 tgd) ls st M bc bs) : xAt p l e R s m args below meth c Q D b0 nL M0 r0 pc ls st M bc bs := by
  unfold i_tsw at h
  split at h
  · next x st0 =>
    obtain ⟨h1, h2⟩ := xsw_in _ _ h
    intro r H locs cells slots als hS
    have hS2 := hS.2.2.2.2
    have hS' : xSt s R D b0 nL M0 r0 ls st0 M bc bs r H locs cells slots als := ⟨hS.1, hS.2.1, hS.2.2.1, hS.2.2.2.1, xtail hS2.1, hS2.2⟩
    by_cases hx : x.toInt < lo ∨ hi < x.toInt
    · exact lv_tableOut C.1 C.2.1 hd hx hdf (h2 (by rw [List.length_map]; omega) r H locs cells slots als hS')
    · have hj : (x.toInt - lo).toNat < tgs.length := by omega
      have hlen : offs.toList.length = tgs.length := by
        have := congrArg List.length hof
        simpa using this
      have hjo : (x.toInt - lo).toNat < offs.size := by
        rw [← Array.length_toList, hlen]
        exact hj
      have eoff : (pc : Int) + offs[(x.toInt - lo).toNat] = (tgs[(x.toInt - lo).toNat] : Int) := by
        have h3 := congrArg (fun l => l[(x.toInt - lo).toNat]?) hof
        simp only [List.getElem?_map] at h3
        rw [List.getElem?_eq_getElem hj, Array.getElem?_toList, Array.getElem?_eq_getElem hjo] at h3
        simpa using h3
      refine lv_tableIn C.1 C.2.1 hd (fun z => hx (Or.inl z)) (fun z => hx (Or.inr z)) (Array.getElem?_eq_getElem hjo) eoff ?_
      have hfin : xAt p l e R s m args below meth c Q D b0 nL M0 r0 tgs[(x.toInt - lo).toNat] ls st0 M bc bs := h1 (x.toInt - lo).toNat (xAt p l e R s m args below meth c Q D b0 nL M0 r0 tgs[(x.toInt - lo).toNat]) (by rw [List.getElem?_map, List.getElem?_eq_getElem hj]; rfl) (by omega)
      exact hfin r H locs cells slots als hS'
  · exact h.elim
end XR
theorem xcl0 : xCls 0 RX0 TX0 12 tyX0 := ⟨by decide, rfl, inG0, tyX0_ok, nmX0, rfl, by decide +kernel⟩
theorem xcl1 : xCls 1 RX1 TX1 4 tyX1 := ⟨by decide, rfl, inG1, tyX1_ok, nmX1, rfl, by decide +kernel⟩
theorem xcl2 : xCls 2 RX2 TX2 8 tyX2 := ⟨by decide, rfl, inG2, tyX2_ok, nmX2, rfl, by decide +kernel⟩
theorem xcl3 : xCls 3 RX3 TX3 6 tyX3 := ⟨by decide, rfl, inG3, tyX3_ok, nmX3, rfl, by decide +kernel⟩
theorem xcl4 : xCls 4 RX4 TX4 9 tyX4 := ⟨by decide, rfl, inG4, tyX4_ok, nmX4, rfl, by decide +kernel⟩
theorem xcl5 : xCls 5 RX5 TX5 5 tyX5 := ⟨by decide, rfl, inG5, tyX5_ok, nmX5, rfl, by decide +kernel⟩
theorem xcl6 : xCls 6 RX6 TX6 13 tyX6 := ⟨by decide, rfl, inG6, tyX6_ok, nmX6, rfl, by decide +kernel⟩
theorem xcl7 : xCls 7 RX7 TX7 2 tyX7 := ⟨by decide, rfl, inG7, tyX7_ok, nmX7, rfl, by decide +kernel⟩
theorem xcl8 : xCls 8 RX8 TX8 2 tyX8 := ⟨by decide, rfl, inG8, tyX8_ok, nmX8, rfl, by decide +kernel⟩
theorem xcl9 : xCls 9 RX9 TX9 52 tyX9 := ⟨by decide, rfl, inG9, tyX9_ok, nmX9, rfl, by decide +kernel⟩
