section XR
variable {p : Program} {l : Launch} {e : Env} {R : Room} {s : State} {m : MethodId} {args : Array Value} {below : List Frame} {meth : Method} {c : Code} {Q : State → Prop}
variable {cc : ByteArray} {nL : Nat} {own : String} {D : DX} {b0 : Nat} {M0 : XM} {r0 : Nat → Nat → Nat} {pc : Nat}
theorem xE_R {r : Nat → Nat → Nat} {M : XM} {k i n tk ti : Nat} (h : ¬ k < 10) (ha : xAk k = (4, n, tk, ti)) : xE D r M k i = .inl (D.2 ti, n, .inr (.inr (.inr (.inr (fun c => (gR M (100 * (k + 1)) i c).map (r tk)))))) := by
  rw [xE_arr h]
  unfold xCt
  rw [ha]
  rfl
def i_aald (k n f tk : Nat) (K : XK) : XK := fun ls st M bc bs => match st with
  | .inl y :: .inr (.inr (.inr (k1, o))) :: st => k1 = k ∧ vp_in y n ∧ ∃ i, o = some i ∧ K ls (vR tk (gR M f i y.toNatClampNeg) :: st) M bc bs
  | _ => False
theorem s_aald {k n f tk ti : Nat} {Cn : String} (C : xC p s m args meth c cc nL own D b0) (hd : decode cc pc = .ok (.aaload, 1)) (hk : ¬ k < 10 ∧ ¬ k = 99) (ha : xAk k = (4, n, tk, ti)) (hf : f = 100 * (k + 1)) (ht : (xTys D)[ti]? = some (D.2 ti, .object Cn)) (ls st M bc bs) (h : i_aald k n f tk (xAt p l e R s m args below meth c Q D b0 nL M0 r0 (pc + 1)) ls st M bc bs) : xAt p l e R s m args below meth c Q D b0 nL M0 r0 pc ls st M bc bs := by
  unfold i_aald at h
  split at h
  · next y k1 o st0 =>
    obtain ⟨rfl, hin, i, rfl, h⟩ := h
    subst hf
    intro r H locs cells slots als hS
    have hS2 := hS.2.2.2.2
    obtain ⟨ks, hks, hPw, hDw⟩ := hS.2.1
    obtain ⟨z, hz, hw⟩ := xW_at (D := D) (r := r) (M := M) ((hks k1 i).mp ⟨xhead (xtail hS2.1), hk.2⟩)
    rw [xE_R hk.1 ha] at hw
    have hTk : xTk (100 * (k1 + 1)) = tk := by rw [xTk_arr hk.1, ha]
    exact va_aldq C.1 C.2.1 C.2.2.2.2.2.1.1 hPw z ti hw ht hin hd (h r H locs cells slots als ⟨hS.1, hS.2.1, hS.2.2.1, hS.2.2.2.1, xcons (xlive_R (fun q hq => by have h1 := hS.2.2.1 _ _ _ _ hq; rw [hTk] at h1; exact h1)) (xtail (xtail hS2.1)), hS2.2⟩)
  · exact h.elim
def i_aast (k n f tk : Nat) (K : XK) : XK := fun ls st M bc bs => match st with
  | .inr (.inr (.inr (tk1, v))) :: .inl y :: .inr (.inr (.inr (k1, o))) :: st => tk1 = tk ∧ k1 = k ∧ vp_in y n ∧ (∃ j, v = some j) ∧ ∃ i, o = some i ∧ K ls st (sR M f i y.toNatClampNeg v) bc bs
  | _ => False
theorem s_aast {k n f tk ti N : Nat} {Cn : String} {T : u_T} {ty : Nat → FieldType} (C : xC p s m args meth c cc nL own D b0) (hd : decode cc pc = .ok (.aastore, 1)) (hk : ¬ k < 10 ∧ ¬ k = 99) (ha : xAk k = (4, n, tk, ti)) (hf : f = 100 * (k + 1)) (hc : xCls tk Cn T N ty) (ht : (xTys D)[ti]? = some (D.2 ti, .object Cn)) (ls st M bc bs) (h : i_aast k n f tk (xAt p l e R s m args below meth c Q D b0 nL M0 r0 (pc + 1)) ls st M bc bs) : xAt p l e R s m args below meth c Q D b0 nL M0 r0 pc ls st M bc bs := by
  unfold i_aast at h
  split at h
  · next tk1 v y k1 o st0 =>
    obtain ⟨rfl, rfl, hin, ⟨j, rfl⟩, i, rfl, h⟩ := h
    subst hf
    intro r H locs cells slots als hS
    have hS2 := hS.2.2.2.2
    obtain ⟨ks, hks, hPw, hDw⟩ := hS.2.1
    obtain ⟨z, hz, hw⟩ := xW_at (D := D) (r := r) (M := M) ((hks k1 i).mp ⟨xhead (xtail (xtail hS2.1)), hk.2⟩)
    obtain ⟨z2, hz2, hw2⟩ := xW_at (D := D) (r := r) (M := M) ((hks tk1 j).mp ⟨xhead hS2.1, by have := hc.1; omega⟩)
    rw [xE_R hk.1 ha] at hw
    rw [xE_obj hc.1] at hw2
    have hTk : xTk (100 * (k1 + 1)) = tk1 := by rw [xTk_arr hk.1, ha]
    have he : va_up (fun c => (gR M (100 * (k1 + 1)) i c).map (r tk1)) y.toNatClampNeg (some (r tk1 j)) = (fun c => (gR (sR M (100 * (k1 + 1)) i y.toNatClampNeg (some j)) (100 * (k1 + 1)) i c).map (r tk1)) := by
      funext c
      rw [gR_sR]
      by_cases q : c = y.toNatClampNeg
      · simp [va_up, q]
      · simp [va_up, q]
    refine va_astq C.1 C.2.1 C.2.2.2.2.2.1.1 hPw hDw hS2.2.1 z ti z2 tk1 hw ht hw2 hc.2.1 hin hd (fun H1 locs1 hP1 hD1 hS1 => ?_)
    refine h r H1 locs1 cells slots als (xSt_put hS xsub2 (fun _ _ => rfl) (xwf_sR hS.2.2.1 (fun q hq => by cases hq; rw [hTk]; exact xhead hS2.1)) (xP_set hks hDw hz (xOth_sR M i y.toNatClampNeg (some j) (by omega)) (fun _ _ => rfl) ?_ hP1 hD1) hS1)
    rw [xE_R hk.1 ha, he]
  · exact h.elim
-- new things
def xDef (k : Nat) : List Value := (xFd k).map (fun d => if d.1 = 1 then .long 0 else if d.1 = 3 then .null else .int 0)
theorem xFl_nO (r : Nat → Nat → Nat) (M : XM) (k i : Nat) : xFl r (nO M k i) k i = xDef k := by
  apply List.ext_getElem?
  intro j
  rw [xFl_at]
  unfold xDef
  rw [List.getElem?_map]
  cases hd : (xFd k)[j]? with
  | none => rfl
  | some d =>
    have hj : j < 60 := Nat.lt_of_lt_of_le (List.getElem?_eq_some_iff.mp hd).1 (xFd_len k)
    have hq : (100 * (k + 1) + j) / 100 = k + 1 := by omega
    simp [xfv, gL_nO, gI_nO, gR_nO, hq, va_rf]
theorem xE_nO {r : Nat → Nat → Nat} {M : XM} {k i : Nat} (h : k < 10) : xE D r (nO M k i) k i = .inr (k, xDef k) := by rw [xE_obj h, xFl_nO]
/-- behind a new thing -/
theorem xSt_new {r r' : Nat → Nat → Nat} {M : XM} {ls : List (Nat × XV)} {st st' : List XV} {bc bs : Nat} {H H1 : Heap} {locs : List Loc} {cells slots n k i : Nat} {als : Array Slot} (h : xSt s R D b0 nL M0 r0 ls st M bc bs r H locs cells slots als) (hsub : ∀ v ∈ st', v ∈ st) (hr : ∀ c d, gV M c d = true → r' c d = r c d) (hP : xP D b0 r' (nO M k i) H1) (hS : va_S (fun q => b0 ≤ q) s.heap H1 locs) (h1 : 1 ≤ bc) (h2 : n ≤ bs) : xSt s R D b0 nL M0 r0 ls (vR k (some i) :: st') (nO M k i) (bc - 1) (bs - n) r' H1 locs (cells + 1) (slots + n) als ∧ st'.map (xv r') = st'.map (xv r) := by
  obtain ⟨a1, a2, a3, a4, a5, -, a7, a8, a9⟩ := h
  have hmono := gV_nO_mono M k i
  refine ⟨⟨?_, hP, xwf_nO a3 k i, fun q hq => xlive_mono hmono (a4 q hq), xcons (by show gV (nO M k i) k i = true; rw [gV_nO, if_pos ⟨rfl, rfl⟩]) (fun v hv => xlive_mono hmono (a5 v (hsub v hv))), hS, by omega, by omega, fun c d hcd => ⟨(hr c d (a9 c d hcd).2).trans (a9 c d hcd).1, hmono c d (a9 c d hcd).2⟩⟩, ?_⟩
  · have e : ls.map (xvp r') = ls.map (xvp r) := List.map_congr_left (fun q hq => by show (q.1, xv r' q.2) = (q.1, xv r q.2); rw [xv_kept hr (a4 q hq)])
    rw [e]
    exact a1
  · exact List.map_congr_left (fun v hv => xv_kept hr (a5 v (hsub v hv)))
def i_new (k N : Nat) (K : XK) : XK := fun ls st M bc bs => 1 ≤ bc ∧ N ≤ bs ∧ ∃ i, gV M k i = false ∧ K ls (vR k (some i) :: st) (nO M k i) (bc - 1) (bs - N)
theorem s_new {k index N : Nat} {Cn : String} {T : u_T} {ty : Nat → FieldType} (C : xC p s m args meth c cc nL own D b0) (hd : decode cc pc = .ok (.new index, 3)) (hc : xCls k Cn T N ty) (h1 : Cond.classLink own index Cn ∈ wsG) (h2 : Cond.instantiable Cn N ∈ wsG) (h3 : Cond.initialized Cn ∈ wsG) (ls st M bc bs) (h : i_new k N (xAt p l e R s m args below meth c Q D b0 nL M0 r0 (pc + 3)) ls st M bc bs) : xAt p l e R s m args below meth c Q D b0 nL M0 r0 pc ls st M bc bs := by
  unfold i_new at h
  obtain ⟨hb1, hb2, i, hi, h⟩ := h
  intro r H locs cells slots als hS
  have hS2 := hS.2.2.2.2
  obtain ⟨ks, hks, hPw, hDw⟩ := hS.2.1
  have hts := C.2.2.2.2.1
  refine va_new (fs := xDef k) C.1 C.2.1 hts hc.2.2.1 ty hc.2.2.2.1 C.2.2.2.1 (hts _ h1) (hts _ h2) (hts _ h3) C.2.2.2.2.2.1.1 hPw hDw hS2.2.1 (fun q hq => Nat.le_trans C.2.2.2.2.2.2.2 hq) hc.2.1 ?_ (by have := hS2.2.2.1; omega) (by have := hS2.2.2.2.1; omega) hd (fun q H1 hP1 hD1 hS1 => ?_)
  · intro j hj
    rw [hc.2.2.2.2.2.2 j hj]
    have hjl : j < (xFd k).length := by rw [hc.2.2.2.2.2.1]; exact hj
    unfold vp_V xDef
    simp only [List.getD_eq_getElem?_getD, List.getElem?_map, List.getElem?_eq_getElem hjl]
    rfl
  · obtain ⟨r', e1, e2, hP'⟩ := xP_new hS.2.2.1 hks hi (by have := hc.1; omega) (fun r' => (xE_nO (D := D) (r := r') (M := M) (i := i) hc.1).symm) hP1 hD1
    obtain ⟨hx, e3⟩ := xSt_new hS (fun _ z => z) e2 hP' hS1 hb1 hb2
    have hk := h r' H1 locs _ _ als hx
    rw [List.map_cons, e3] at hk
    subst e1
    exact hk
def i_newa (k n : Nat) (K : XK) : XK := fun ls st M bc bs => match st with
  | .inl x :: st => ¬ x < 0 ∧ x.toNatClampNeg = n ∧ 1 ≤ bc ∧ n ≤ bs ∧ ∃ i, gV M k i = false ∧ K ls (vR k (some i) :: st) (nO M k i) (bc - 1) (bs - n)
  | _ => False
theorem s_newaI {k n : Nat} (C : xC p s m args meth c cc nL own D b0) (hd : decode cc pc = .ok (.newarray .int, 2)) (hk : ¬ k < 10 ∧ ¬ k = 99) (ha : xAk k = (0, n, 0, 0)) (hb : n * componentBytes .int ≤ 536870912) (h1 : Cond.arrayClass .int ∈ wsG) (ls st M bc bs) (h : i_newa k n (xAt p l e R s m args below meth c Q D b0 nL M0 r0 (pc + 2)) ls st M bc bs) : xAt p l e R s m args below meth c Q D b0 nL M0 r0 pc ls st M bc bs := by
  unfold i_newa at h
  split at h
  · next x st0 =>
    obtain ⟨hx0, hxn, hb1, hb2, i, hi, h⟩ := h
    intro r H locs cells slots als hS
    have hS2 := hS.2.2.2.2
    obtain ⟨ks, hks, hPw, hDw⟩ := hS.2.1
    have hts := C.2.2.2.2.1
    refine va_newa (atype := .int) (ty := .int) (a0 := (n, .inl (fun _ => 0))) C.1 C.2.1 (hts _ h1) rfl C.2.2.2.2.2.1.1 hPw hDw hS2.2.1 (fun q hq => Nat.le_trans C.2.2.2.2.2.2.2 hq) (fun _ => rfl) hx0 hxn hb (by have := hS2.2.2.1; omega) (by have := hS2.2.2.2.1; omega) hd (fun q cA H1 hK1 hP1 hD1 hS1 => ?_)
    have hcA : cA = D.2 0 := by
      have f1 := (hK1.2 (xTys D).length (cA, .int) (by simp)).2
      have f2 := (C.2.2.2.2.2.1.1.2 0 (D.2 0, .int) rfl).2
      exact Option.some.inj (Eq.trans (Eq.symm f1) f2)
    subst hcA
    have he : ∀ r', (.inl (D.2 0, n, .inl (fun _ => 0)) : va_E) = xE D r' (nO M k i) k i := by
      intro r'
      rw [xE_I hk.1 ha]
      congr 4
      funext c
      rw [gI_nO, if_pos ⟨by omega, rfl⟩]
    obtain ⟨r', e1, e2, hP'⟩ := xP_new hS.2.2.1 hks hi hk.2 he hP1 hD1
    obtain ⟨hx, e3⟩ := xSt_new hS (st' := st0) (fun _ z => List.mem_cons_of_mem _ z) e2 hP' hS1 hb1 hb2
    have hk := h r' H1 locs _ _ als hx
    rw [List.map_cons, e3] at hk
    subst e1
    exact hk
  · exact h.elim
theorem s_newaL {k n : Nat} (C : xC p s m args meth c cc nL own D b0) (hd : decode cc pc = .ok (.newarray .long, 2)) (hk : ¬ k < 10 ∧ ¬ k = 99) (ha : xAk k = (1, n, 0, 1)) (hb : n * componentBytes .long ≤ 536870912) (h1 : Cond.arrayClass .long ∈ wsG) (ls st M bc bs) (h : i_newa k n (xAt p l e R s m args below meth c Q D b0 nL M0 r0 (pc + 2)) ls st M bc bs) : xAt p l e R s m args below meth c Q D b0 nL M0 r0 pc ls st M bc bs := by
  unfold i_newa at h
  split at h
  · next x st0 =>
    obtain ⟨hx0, hxn, hb1, hb2, i, hi, h⟩ := h
    intro r H locs cells slots als hS
    have hS2 := hS.2.2.2.2
    obtain ⟨ks, hks, hPw, hDw⟩ := hS.2.1
    have hts := C.2.2.2.2.1
    refine va_newa (atype := .long) (ty := .long) (a0 := (n, .inr (.inl (fun _ => 0)))) C.1 C.2.1 (hts _ h1) rfl C.2.2.2.2.2.1.1 hPw hDw hS2.2.1 (fun q hq => Nat.le_trans C.2.2.2.2.2.2.2 hq) (fun _ => rfl) hx0 hxn hb (by have := hS2.2.2.1; omega) (by have := hS2.2.2.2.1; omega) hd (fun q cA H1 hK1 hP1 hD1 hS1 => ?_)
    have hcA : cA = D.2 1 := by
      have f1 := (hK1.2 (xTys D).length (cA, .long) (by simp)).2
      have f2 := (C.2.2.2.2.2.1.1.2 1 (D.2 1, .long) rfl).2
      exact Option.some.inj (Eq.trans (Eq.symm f1) f2)
    subst hcA
    have he : ∀ r', (.inl (D.2 1, n, .inr (.inl (fun _ => 0))) : va_E) = xE D r' (nO M k i) k i := by
      intro r'
      rw [xE_L hk.1 ha]
      congr 5
      funext c
      rw [gL_nO, if_pos ⟨by omega, rfl⟩]
    obtain ⟨r', e1, e2, hP'⟩ := xP_new hS.2.2.1 hks hi hk.2 he hP1 hD1
    obtain ⟨hx, e3⟩ := xSt_new hS (st' := st0) (fun _ z => List.mem_cons_of_mem _ z) e2 hP' hS1 hb1 hb2
    have hk := h r' H1 locs _ _ als hx
    rw [List.map_cons, e3] at hk
    subst e1
    exact hk
  · exact h.elim
theorem s_newaD {k n : Nat} (C : xC p s m args meth c cc nL own D b0) (hd : decode cc pc = .ok (.newarray .double, 2)) (hk : ¬ k < 10 ∧ ¬ k = 99) (ha : xAk k = (2, n, 0, 2)) (hb : n * componentBytes .double ≤ 536870912) (h1 : Cond.arrayClass .double ∈ wsG) (ls st M bc bs) (h : i_newa k n (xAt p l e R s m args below meth c Q D b0 nL M0 r0 (pc + 2)) ls st M bc bs) : xAt p l e R s m args below meth c Q D b0 nL M0 r0 pc ls st M bc bs := by
  unfold i_newa at h
  split at h
  · next x st0 =>
    obtain ⟨hx0, hxn, hb1, hb2, i, hi, h⟩ := h
    intro r H locs cells slots als hS
    have hS2 := hS.2.2.2.2
    obtain ⟨ks, hks, hPw, hDw⟩ := hS.2.1
    have hts := C.2.2.2.2.1
    refine va_newa (atype := .double) (ty := .double) (a0 := (n, .inr (.inr (.inr (.inl (fun _ => 0)))))) C.1 C.2.1 (hts _ h1) rfl C.2.2.2.2.2.1.1 hPw hDw hS2.2.1 (fun q hq => Nat.le_trans C.2.2.2.2.2.2.2 hq) (fun _ => rfl) hx0 hxn hb (by have := hS2.2.2.1; omega) (by have := hS2.2.2.2.1; omega) hd (fun q cA H1 hK1 hP1 hD1 hS1 => ?_)
    have hcA : cA = D.2 2 := by
      have f1 := (hK1.2 (xTys D).length (cA, .double) (by simp)).2
      have f2 := (C.2.2.2.2.2.1.1.2 2 (D.2 2, .double) rfl).2
      exact Option.some.inj (Eq.trans (Eq.symm f1) f2)
    subst hcA
    have he : ∀ r', (.inl (D.2 2, n, .inr (.inr (.inr (.inl (fun _ => 0))))) : va_E) = xE D r' (nO M k i) k i := by
      intro r'
      rw [xE_D hk.1 ha]
      congr 7
      funext c
      rw [gD_nO, if_pos ⟨by omega, rfl⟩]
    obtain ⟨r', e1, e2, hP'⟩ := xP_new hS.2.2.1 hks hi hk.2 he hP1 hD1
    obtain ⟨hx, e3⟩ := xSt_new hS (st' := st0) (fun _ z => List.mem_cons_of_mem _ z) e2 hP' hS1 hb1 hb2
    have hk := h r' H1 locs _ _ als hx
    rw [List.map_cons, e3] at hk
    subst e1
    exact hk
  · exact h.elim
theorem s_newaZ {k n : Nat} (C : xC p s m args meth c cc nL own D b0) (hd : decode cc pc = .ok (.newarray .boolean, 2)) (hk : ¬ k < 10 ∧ ¬ k = 99) (ha : xAk k = (3, n, 0, 3)) (hb : n * componentBytes .boolean ≤ 536870912) (h1 : Cond.arrayClass .boolean ∈ wsG) (ls st M bc bs) (h : i_newa k n (xAt p l e R s m args below meth c Q D b0 nL M0 r0 (pc + 2)) ls st M bc bs) : xAt p l e R s m args below meth c Q D b0 nL M0 r0 pc ls st M bc bs := by
  unfold i_newa at h
  split at h
  · next x st0 =>
    obtain ⟨hx0, hxn, hb1, hb2, i, hi, h⟩ := h
    intro r H locs cells slots als hS
    have hS2 := hS.2.2.2.2
    obtain ⟨ks, hks, hPw, hDw⟩ := hS.2.1
    have hts := C.2.2.2.2.1
    refine va_newa (atype := .boolean) (ty := .boolean) (a0 := (n, .inl (fun _ => 0))) C.1 C.2.1 (hts _ h1) rfl C.2.2.2.2.2.1.1 hPw hDw hS2.2.1 (fun q hq => Nat.le_trans C.2.2.2.2.2.2.2 hq) (fun _ => rfl) hx0 hxn hb (by have := hS2.2.2.1; omega) (by have := hS2.2.2.2.1; omega) hd (fun q cA H1 hK1 hP1 hD1 hS1 => ?_)
    have hcA : cA = D.2 3 := by
      have f1 := (hK1.2 (xTys D).length (cA, .boolean) (by simp)).2
      have f2 := (C.2.2.2.2.2.1.1.2 3 (D.2 3, .boolean) rfl).2
      exact Option.some.inj (Eq.trans (Eq.symm f1) f2)
    subst hcA
    have he : ∀ r', (.inl (D.2 3, n, .inl (fun _ => 0)) : va_E) = xE D r' (nO M k i) k i := by
      intro r'
      rw [xE_Z hk.1 ha]
      congr 4
      funext c
      rw [gI_nO, if_pos ⟨by omega, rfl⟩]
    obtain ⟨r', e1, e2, hP'⟩ := xP_new hS.2.2.1 hks hi hk.2 he hP1 hD1
    obtain ⟨hx, e3⟩ := xSt_new hS (st' := st0) (fun _ z => List.mem_cons_of_mem _ z) e2 hP' hS1 hb1 hb2
    have hk := h r' H1 locs _ _ als hx
    rw [List.map_cons, e3] at hk
    subst e1
    exact hk
  · exact h.elim
def i_newq (k n : Nat) (K : XK) : XK := fun ls st M bc bs => match st with
  | .inl x :: st => ¬ x < 0 ∧ x.toNatClampNeg = n ∧ 1 ≤ bc ∧ n ≤ bs ∧ ∃ i, gV M k i = false ∧ K ls (vR k (some i) :: st) (nO M k i) (bc - 1) (bs - n)
  | _ => False
theorem s_newq {k n tk ti index : Nat} {Cn : String} (C : xC p s m args meth c cc nL own D b0) (hd : decode cc pc = .ok (.anewarray index, 3)) (hk : ¬ k < 10 ∧ ¬ k = 99) (ha : xAk k = (4, n, tk, ti)) (hb : n * 4 ≤ 536870912) (h1 : Cond.classLink own index Cn ∈ wsG) (h2 : Cn ∈ xAO) (ht : (xTys D)[ti]? = some (D.2 ti, .object Cn)) (ls st M bc bs) (h : i_newq k n (xAt p l e R s m args below meth c Q D b0 nL M0 r0 (pc + 3)) ls st M bc bs) : xAt p l e R s m args below meth c Q D b0 nL M0 r0 pc ls st M bc bs := by
  unfold i_newq at h
  split at h
  · next x st0 =>
    obtain ⟨hx0, hxn, hb1, hb2, i, hi, h⟩ := h
    intro r H locs cells slots als hS
    have hS2 := hS.2.2.2.2
    obtain ⟨ks, hks, hPw, hDw⟩ := hS.2.1
    have hts := C.2.2.2.2.1
    refine va_newq C.1 C.2.1 C.2.2.2.1 (hts _ h1) (C.2.2.2.2.2.1.2.2.2 _ h2) C.2.2.2.2.2.1.1 hPw hDw hS2.2.1 (fun q hq => Nat.le_trans C.2.2.2.2.2.2.2 hq) hx0 hxn hb (by have := hS2.2.2.1; omega) (by have := hS2.2.2.2.1; omega) hd (fun q cA H1 hK1 hP1 hD1 hS1 => ?_)
    have hcA : cA = D.2 ti := by
      obtain ⟨-, kA, comp, -, -, -, f1⟩ := hK1.2 (xTys D).length (cA, .object Cn) (by simp)
      obtain ⟨-, kA2, comp2, -, -, -, f2⟩ := C.2.2.2.2.2.1.1.2 ti _ ht
      exact Option.some.inj (f1.symm.trans f2)
    subst hcA
    have he : ∀ r', (.inl (D.2 ti, n, .inr (.inr (.inr (.inr (fun _ => none))))) : va_E) = xE D r' (nO M k i) k i := by
      intro r'
      rw [xE_R hk.1 ha]
      congr 7
      funext c
      rw [gR_nO, if_pos ⟨by omega, rfl⟩]
      rfl
    obtain ⟨r', e1, e2, hP'⟩ := xP_new hS.2.2.1 hks hi hk.2 he hP1 hD1
    obtain ⟨hx, e3⟩ := xSt_new hS (st' := st0) (fun _ z => List.mem_cons_of_mem _ z) e2 hP' hS1 hb1 hb2
    have hk := h r' H1 locs _ _ als hx
    rw [List.map_cons, e3] at hk
    subst e1
    exact hk
  · exact h.elim
end XR
