section XR
variable {p : Program} {l : Launch} {e : Env} {R : Room} {s : State} {m : MethodId} {args : Array Value} {below : List Frame} {meth : Method} {c : Code} {Q : State → Prop}
variable {cc : ByteArray} {nL : Nat} {own : String} {D : DX} {b0 : Nat} {M0 : XM} {r0 : Nat → Nat → Nat} {pc : Nat}

theorem xlv_same {M M' : XM} (hv : ∀ a b, gV M' a b = gV M a b) {v : XV} (h : xlive M v) : xlive M' v := xlive_mono (fun a b z => by rw [hv]; exact z) h
/-- behind a write to the thing i of kind k -/
theorem xSt_put {r : Nat → Nat → Nat} {M M' : XM} {ls : List (Nat × XV)} {st st' : List XV} {bc bs : Nat} {H H1 : Heap} {locs locs1 : List Loc} {cells slots : Nat} {als : Array Slot} (h : xSt s R D b0 nL M0 r0 ls st M bc bs r H locs cells slots als) (hsub : ∀ v ∈ st', v ∈ st) (hv : ∀ a b, gV M' a b = gV M a b) (hw : xwf M') (hP : xP D b0 r M' H1) (hS : va_S (fun q => b0 ≤ q) s.heap H1 locs1) : xSt s R D b0 nL M0 r0 ls st' M' bc bs r H1 locs1 cells slots als := by
  obtain ⟨h1, -, -, h4, h5, -, h7, h8, h9⟩ := h
  exact ⟨h1, hP, hw, fun q hq => xlv_same hv (h4 q hq), fun v hq => xlv_same hv (h5 v (hsub v hq)), hS, h7, h8, fun k i hk => ⟨(h9 k i hk).1, by rw [hv]; exact (h9 k i hk).2⟩⟩
theorem xsub1 {a b : XV} {st : List XV} : ∀ v ∈ st, v ∈ a :: b :: st := fun _ h => List.mem_cons_of_mem _ (List.mem_cons_of_mem _ h)
theorem xsub2 {a b c : XV} {st : List XV} : ∀ v ∈ st, v ∈ a :: b :: c :: st := fun _ h => List.mem_cons_of_mem _ (List.mem_cons_of_mem _ (List.mem_cons_of_mem _ h))
theorem xput {k j i index N : Nat} {Cn : String} {T : u_T} {ty : Nat → FieldType} {d : Nat × Nat} {M M' : XM} {r : Nat → Nat → Nat} {H : Heap} {locs : List Loc} {cells slots : Nat} {als : Array Slot} {v : Value} {rest : List Value} (C : xC p s m args meth c cc nL own D b0) (hc : xCls k Cn T N ty) (hs : (xFd k)[j]? = some d) (hl : Cond.fieldLink own index (T j).1 (T j).2.1 (T j).2.2.1 ∈ wsG) (hd : decode cc pc = .ok (.putfield index, 3)) (hfin : (T j).2.2.2 = false ∨ ((T j).2.2.2 = true ∧ meth.name = "<init>" ∧ (T j).1 = own)) (hn : narrow (ty j) v = v) (hfit : fits (ty j) v = true) (ho : xOth M M' k i) (hg : ∀ a b, gV M' a b = gV M a b) (hset : (xFl r M k i).set j v = xFl r M' k i) (hP : xP D b0 r M H) (hS : va_S (fun q => b0 ≤ q) s.heap H locs) (hv : gV M k i = true)
    (kk : ∀ (H1 : Heap) (locs1 : List Loc), xP D b0 r M' H1 → va_S (fun q => b0 ≤ q) s.heap H1 locs1 → W p l e R s m args below meth c H1 locs1 cells slots Q (F0 m (pc + 3) als rest)) : W p l e R s m args below meth c H locs cells slots Q (F0 m pc als (v :: .ref (r k i) :: rest)) := by
  obtain ⟨ks, hk, hPw, hDw⟩ := hP
  obtain ⟨n, hn', hw⟩ := xW_at (D := D) (r := r) (M := M) ((hk k i).mp ⟨hv, by have := hc.1; omega⟩)
  rw [xE_obj hc.1] at hw
  have hj : j < N := by rw [← hc.2.2.2.2.2.1]; exact (List.getElem?_eq_some_iff.mp hs).1
  have hlen : j < (xFl r M k i).length := by rw [xFl_len, hc.2.2.2.2.2.1]; exact hj
  have fin : ∀ (H1 : Heap) (locs1 : List Loc), va_P D.1 vwCl ((xW D r M ks).set n (r k i, .inr (k, (xFl r M k i).set j v))) H1 → va_D (fun q => b0 ≤ q) ((xW D r M ks).set n (r k i, .inr (k, (xFl r M k i).set j v))) → va_S (fun q => b0 ≤ q) s.heap H1 locs1 → W p l e R s m args below meth c H1 locs1 cells slots Q (F0 m (pc + 3) als rest) := fun H1 locs1 hP1 hD1 hS1 => kk H1 locs1 (xP_set hk hDw hn' ho hg (by rw [hset, xE_obj hc.1]) hP1 hD1) hS1
  rcases hfin with hf | ⟨hf, hin, hdl⟩
  · exact va_put C.1 C.2.1 C.2.2.2.2.1 hc.2.2.1 ty hc.2.2.2.1 hc.2.2.2.2.1 C.2.2.2.1 C.2.2.2.2.2.1.1 hPw hDw hS n hw hc.2.1 j hj (C.2.2.2.2.1 _ hl) (fun x h => h) hf (hc.2.2.2.1 j hj) hn hfit hlen hd fin
  · exact va_putF C.1 C.2.1 C.2.2.2.2.1 hc.2.2.1 ty hc.2.2.2.1 hc.2.2.2.2.1 C.2.2.2.1 C.2.2.2.2.2.1.1 hPw hDw hS n hw hc.2.1 j hj (C.2.2.2.2.1 _ hl) (fun x h => h) hf hin hdl (hc.2.2.2.1 j hj) hn hfit hlen hd fin

def i_putI (k f : Nat) (K : XK) : XK := fun ls st M bc bs => match st with
  | .inl x :: .inr (.inr (.inr (k1, o))) :: st => k1 = k ∧ ∃ i, o = some i ∧ K ls st (sI M f i 0 x) bc bs
  | _ => False
theorem s_putI {k j f index N : Nat} {Cn : String} {T : u_T} {ty : Nat → FieldType} {d : Nat × Nat} (C : xC p s m args meth c cc nL own D b0) (hd : decode cc pc = .ok (.putfield index, 3)) (hc : xCls k Cn T N ty) (hs : (xFd k)[j]? = some d) (ht : d.1 = 0) (hf : f = 100 * (k + 1) + j) (hl : Cond.fieldLink own index (T j).1 (T j).2.1 (T j).2.2.1 ∈ wsG) (hfin : (T j).2.2.2 = false ∨ ((T j).2.2.2 = true ∧ meth.name = "<init>" ∧ (T j).1 = own)) (hty : ty j = .int) (ls st M bc bs) (h : i_putI k f (xAt p l e R s m args below meth c Q D b0 nL M0 r0 (pc + 3)) ls st M bc bs) : xAt p l e R s m args below meth c Q D b0 nL M0 r0 pc ls st M bc bs := by
  unfold i_putI at h
  split at h
  · next x k1 o st0 =>
    obtain ⟨rfl, i, rfl, h⟩ := h
    intro r H locs cells slots als hS
    have hS2 := hS.2.2.2.2
    have hj60 : j < 60 := by have := (List.getElem?_eq_some_iff.mp hs).1; have := xFd_len k1; omega
    have hTk : xTk (100 * (k1 + 1) + j) = d.2 := by
      unfold xTk
      have h1 : (100 * (k1 + 1) + j) / 100 - 1 = k1 := by omega
      have h2 : (100 * (k1 + 1) + j) % 100 = j := by omega
      rw [h1, h2, if_pos hc.1, List.getD_eq_getElem?_getD, hs]
      rfl
    skip
    refine xput C hc hs hl hd hfin (v := xv r (vI x)) (M' := sI M f i 0 x) (by rw [hty]; rfl) (by rw [hty]; rfl) (xOth_sI M i 0 x (by omega)) (fun _ _ => rfl) (xFl_set hs (by simp [xfv, ht, xv, gI_sI, hf]) (fun p h60 hp => ?_)) hS.2.1 hS2.2.1 (xhead (xtail hS2.1)) (fun H1 locs1 hP1 hS1 => h r H1 locs1 cells slots als (xSt_put hS xsub1 (fun _ _ => rfl) (xwf_same hS.2.2.1 (fun _ _ => rfl) (fun _ _ _ => rfl)) hP1 hS1))
    refine ⟨?_, ?_, ?_⟩ <;> first | rfl | (rw [gI_sI, if_neg (fun q => hp (by omega))])
  · exact h.elim
def i_putZ (k f : Nat) (K : XK) : XK := fun ls st M bc bs => match st with
  | .inl x :: .inr (.inr (.inr (k1, o))) :: st => (x = 0 ∨ x = 1) ∧ k1 = k ∧ ∃ i, o = some i ∧ K ls st (sI M f i 0 x) bc bs
  | _ => False
theorem s_putZ {k j f index N : Nat} {Cn : String} {T : u_T} {ty : Nat → FieldType} {d : Nat × Nat} (C : xC p s m args meth c cc nL own D b0) (hd : decode cc pc = .ok (.putfield index, 3)) (hc : xCls k Cn T N ty) (hs : (xFd k)[j]? = some d) (ht : d.1 = 2) (hf : f = 100 * (k + 1) + j) (hl : Cond.fieldLink own index (T j).1 (T j).2.1 (T j).2.2.1 ∈ wsG) (hfin : (T j).2.2.2 = false ∨ ((T j).2.2.2 = true ∧ meth.name = "<init>" ∧ (T j).1 = own)) (hty : ty j = .boolean) (ls st M bc bs) (h : i_putZ k f (xAt p l e R s m args below meth c Q D b0 nL M0 r0 (pc + 3)) ls st M bc bs) : xAt p l e R s m args below meth c Q D b0 nL M0 r0 pc ls st M bc bs := by
  unfold i_putZ at h
  split at h
  · next x k1 o st0 =>
    obtain ⟨hx, rfl, i, rfl, h⟩ := h
    intro r H locs cells slots als hS
    have hS2 := hS.2.2.2.2
    have hj60 : j < 60 := by have := (List.getElem?_eq_some_iff.mp hs).1; have := xFd_len k1; omega
    have hTk : xTk (100 * (k1 + 1) + j) = d.2 := by
      unfold xTk
      have h1 : (100 * (k1 + 1) + j) / 100 - 1 = k1 := by omega
      have h2 : (100 * (k1 + 1) + j) % 100 = j := by omega
      rw [h1, h2, if_pos hc.1, List.getD_eq_getElem?_getD, hs]
      rfl
    skip
    refine xput C hc hs hl hd hfin (v := xv r (vI x)) (M' := sI M f i 0 x) (by rw [hty]; rcases hx with rfl | rfl <;> rfl) (by rw [hty]; rcases hx with rfl | rfl <;> rfl) (xOth_sI M i 0 x (by omega)) (fun _ _ => rfl) (xFl_set hs (by simp [xfv, ht, xv, gI_sI, hf]) (fun p h60 hp => ?_)) hS.2.1 hS2.2.1 (xhead (xtail hS2.1)) (fun H1 locs1 hP1 hS1 => h r H1 locs1 cells slots als (xSt_put hS xsub1 (fun _ _ => rfl) (xwf_same hS.2.2.1 (fun _ _ => rfl) (fun _ _ _ => rfl)) hP1 hS1))
    refine ⟨?_, ?_, ?_⟩ <;> first | rfl | (rw [gI_sI, if_neg (fun q => hp (by omega))])
  · exact h.elim
def i_putL (k f : Nat) (K : XK) : XK := fun ls st M bc bs => match st with
  | .inr (.inl x) :: .inr (.inr (.inr (k1, o))) :: st => k1 = k ∧ ∃ i, o = some i ∧ K ls st (sL M f i 0 x) bc bs
  | _ => False
theorem s_putL {k j f index N : Nat} {Cn : String} {T : u_T} {ty : Nat → FieldType} {d : Nat × Nat} (C : xC p s m args meth c cc nL own D b0) (hd : decode cc pc = .ok (.putfield index, 3)) (hc : xCls k Cn T N ty) (hs : (xFd k)[j]? = some d) (ht : d.1 = 1) (hf : f = 100 * (k + 1) + j) (hl : Cond.fieldLink own index (T j).1 (T j).2.1 (T j).2.2.1 ∈ wsG) (hfin : (T j).2.2.2 = false ∨ ((T j).2.2.2 = true ∧ meth.name = "<init>" ∧ (T j).1 = own)) (hty : ty j = .long) (ls st M bc bs) (h : i_putL k f (xAt p l e R s m args below meth c Q D b0 nL M0 r0 (pc + 3)) ls st M bc bs) : xAt p l e R s m args below meth c Q D b0 nL M0 r0 pc ls st M bc bs := by
  unfold i_putL at h
  split at h
  · next x k1 o st0 =>
    obtain ⟨rfl, i, rfl, h⟩ := h
    intro r H locs cells slots als hS
    have hS2 := hS.2.2.2.2
    have hj60 : j < 60 := by have := (List.getElem?_eq_some_iff.mp hs).1; have := xFd_len k1; omega
    have hTk : xTk (100 * (k1 + 1) + j) = d.2 := by
      unfold xTk
      have h1 : (100 * (k1 + 1) + j) / 100 - 1 = k1 := by omega
      have h2 : (100 * (k1 + 1) + j) % 100 = j := by omega
      rw [h1, h2, if_pos hc.1, List.getD_eq_getElem?_getD, hs]
      rfl
    skip
    refine xput C hc hs hl hd hfin (v := xv r (vL x)) (M' := sL M f i 0 x) (by rw [hty]; rfl) (by rw [hty]; rfl) (xOth_sL M i 0 x (by omega)) (fun _ _ => rfl) (xFl_set hs (by simp [xfv, ht, xv, gL_sL, hf]) (fun p h60 hp => ?_)) hS.2.1 hS2.2.1 (xhead (xtail hS2.1)) (fun H1 locs1 hP1 hS1 => h r H1 locs1 cells slots als (xSt_put hS xsub1 (fun _ _ => rfl) (xwf_same hS.2.2.1 (fun _ _ => rfl) (fun _ _ _ => rfl)) hP1 hS1))
    refine ⟨?_, ?_, ?_⟩ <;> first | rfl | (rw [gL_sL, if_neg (fun q => hp (by omega))])
  · exact h.elim
def i_putR (k f tk : Nat) (K : XK) : XK := fun ls st M bc bs => match st with
  | .inr (.inr (.inr (tk1, x))) :: .inr (.inr (.inr (k1, o))) :: st => tk1 = tk ∧ k1 = k ∧ ∃ i, o = some i ∧ K ls st (sR M f i 0 x) bc bs
  | _ => False
theorem s_putR {k j f index N tk : Nat} {Cn : String} {T : u_T} {ty : Nat → FieldType} {d : Nat × Nat} (C : xC p s m args meth c cc nL own D b0) (hd : decode cc pc = .ok (.putfield index, 3)) (hc : xCls k Cn T N ty) (hs : (xFd k)[j]? = some d) (ht : d = (3, tk)) (hf : f = 100 * (k + 1) + j) (hl : Cond.fieldLink own index (T j).1 (T j).2.1 (T j).2.2.1 ∈ wsG) (hfin : (T j).2.2.2 = false ∨ ((T j).2.2.2 = true ∧ meth.name = "<init>" ∧ (T j).1 = own)) (hty : (∃ n, ty j = .object n) ∨ ∃ t, ty j = .array t) (ls st M bc bs) (h : i_putR k f tk (xAt p l e R s m args below meth c Q D b0 nL M0 r0 (pc + 3)) ls st M bc bs) : xAt p l e R s m args below meth c Q D b0 nL M0 r0 pc ls st M bc bs := by
  unfold i_putR at h
  split at h
  · next tk1 x k1 o st0 =>
    obtain ⟨rfl, rfl, i, rfl, h⟩ := h
    intro r H locs cells slots als hS
    have hS2 := hS.2.2.2.2
    have hj60 : j < 60 := by have := (List.getElem?_eq_some_iff.mp hs).1; have := xFd_len k1; omega
    have hTk : xTk (100 * (k1 + 1) + j) = d.2 := by
      unfold xTk
      have h1 : (100 * (k1 + 1) + j) / 100 - 1 = k1 := by omega
      have h2 : (100 * (k1 + 1) + j) % 100 = j := by omega
      rw [h1, h2, if_pos hc.1, List.getD_eq_getElem?_getD, hs]
      rfl
    rw [ht] at hTk
    refine xput C hc hs hl hd hfin (v := xv r (vR tk1 x)) (M' := sR M f i 0 x) (by rcases hty with ⟨n, h⟩ | ⟨n, h⟩ <;> rw [h] <;> cases x <;> rfl) (by rcases hty with ⟨n, h⟩ | ⟨n, h⟩ <;> rw [h] <;> cases x <;> rfl) (xOth_sR M i 0 x (by omega)) (fun _ _ => rfl) (xFl_set hs (by rw [ht]; simp [xfv, xv, gR_sR, hf]) (fun p h60 hp => ?_)) hS.2.1 hS2.2.1 (xhead (xtail hS2.1)) (fun H1 locs1 hP1 hS1 => h r H1 locs1 cells slots als (xSt_put hS xsub1 (fun _ _ => rfl) (xwf_sR hS.2.2.1 (fun z hz => by rw [hf, hTk]; exact xlive_R' (xhead hS2.1) z hz)) hP1 hS1))
    refine ⟨?_, ?_, ?_⟩ <;> first | rfl | (rw [gR_sR, if_neg (fun q => hp (by omega))])
  · exact h.elim
theorem xE_arr {r : Nat → Nat → Nat} {M : XM} {k i : Nat} (h : ¬ k < 10) : xE D r M k i = .inl (D.2 (xAk k).2.2.2, (xAk k).2.1, xCt r M k i) := by unfold xE xLen; rw [if_neg h]
theorem xTk_arr {k : Nat} (h : ¬ k < 10) : xTk (100 * (k + 1)) = (xAk k).2.2.1 := by
  unfold xTk
  have h1 : (100 * (k + 1)) / 100 - 1 = k := by omega
  rw [h1, if_neg h]
theorem xE_I {r : Nat → Nat → Nat} {M : XM} {k i n : Nat} (h : ¬ k < 10) (ha : xAk k = (0, n, 0, 0)) : xE D r M k i = .inl (D.2 0, n, .inl (fun c => gI M (100 * (k + 1)) i c)) := by
  rw [xE_arr h]
  unfold xCt
  rw [ha]
  rfl
def i_iald (k n f : Nat) (K : XK) : XK := fun ls st M bc bs => match st with
  | .inl y :: .inr (.inr (.inr (k1, o))) :: st => k1 = k ∧ vp_in y n ∧ ∃ i, o = some i ∧ K ls (vI (gI M f i y.toNatClampNeg) :: st) M bc bs
  | _ => False
theorem s_iald {k n f : Nat} (C : xC p s m args meth c cc nL own D b0) (hd : decode cc pc = .ok (.iaload, 1)) (hk : ¬ k < 10 ∧ ¬ k = 99) (ha : xAk k = (0, n, 0, 0)) (hf : f = 100 * (k + 1)) (ls st M bc bs) (h : i_iald k n f (xAt p l e R s m args below meth c Q D b0 nL M0 r0 (pc + 1)) ls st M bc bs) : xAt p l e R s m args below meth c Q D b0 nL M0 r0 pc ls st M bc bs := by
  unfold i_iald at h
  split at h
  · next y k1 o st0 =>
    obtain ⟨rfl, hin, i, rfl, h⟩ := h
    subst hf
    intro r H locs cells slots als hS
    have hS2 := hS.2.2.2.2
    obtain ⟨ks, hks, hPw, hDw⟩ := hS.2.1
    obtain ⟨z, hz, hw⟩ := xW_at (D := D) (r := r) (M := M) ((hks k1 i).mp ⟨xhead (xtail hS2.1), hk.2⟩)
    rw [xE_I hk.1 ha] at hw
    exact va_iald C.1 C.2.1 C.2.2.2.2.2.1.1 hPw z 0 hw rfl hin hd (h r H locs cells slots als ⟨hS.1, hS.2.1, hS.2.2.1, hS.2.2.2.1, xcons trivial (xtail (xtail hS2.1)), hS2.2⟩)
  · exact h.elim
def i_iast (k n f : Nat) (K : XK) : XK := fun ls st M bc bs => match st with
  | .inl x :: .inl y :: .inr (.inr (.inr (k1, o))) :: st => k1 = k ∧ vp_in y n ∧ ∃ i, o = some i ∧ K ls st (sI M f i y.toNatClampNeg x) bc bs
  | _ => False
theorem s_iast {k n f : Nat} (C : xC p s m args meth c cc nL own D b0) (hd : decode cc pc = .ok (.iastore, 1)) (hk : ¬ k < 10 ∧ ¬ k = 99) (ha : xAk k = (0, n, 0, 0)) (hf : f = 100 * (k + 1)) (ls st M bc bs) (h : i_iast k n f (xAt p l e R s m args below meth c Q D b0 nL M0 r0 (pc + 1)) ls st M bc bs) : xAt p l e R s m args below meth c Q D b0 nL M0 r0 pc ls st M bc bs := by
  unfold i_iast at h
  split at h
  · next x y k1 o st0 =>
    obtain ⟨rfl, hin, i, rfl, h⟩ := h
    subst hf
    intro r H locs cells slots als hS
    have hS2 := hS.2.2.2.2
    obtain ⟨ks, hks, hPw, hDw⟩ := hS.2.1
    obtain ⟨z, hz, hw⟩ := xW_at (D := D) (r := r) (M := M) ((hks k1 i).mp ⟨xhead (xtail (xtail hS2.1)), hk.2⟩)
    rw [xE_I hk.1 ha] at hw
    have he : (upd (fun c => gI M (100 * (k1 + 1)) i c) y.toNatClampNeg x) = (fun c => gI (sI M (100 * (k1 + 1)) i y.toNatClampNeg x) (100 * (k1 + 1)) i c) := by
      funext c
      rw [gI_sI]
      skip
      by_cases q : c = y.toNatClampNeg
      · simp [upd, q]
      · simp [upd, q]
    refine va_iast C.1 C.2.1 C.2.2.2.2.2.1.1 hPw hDw hS2.2.1 z 0 hw rfl hin hd (fun H1 locs1 hP1 hD1 hS1 => ?_)
    refine h r H1 locs1 cells slots als (xSt_put hS xsub2 (fun _ _ => rfl) (xwf_same hS.2.2.1 (fun _ _ => rfl) (fun _ _ _ => rfl)) (xP_set hks hDw hz (xOth_sI M i y.toNatClampNeg x (by omega)) (fun _ _ => rfl) ?_ hP1 hD1) hS1)
    rw [xE_I hk.1 ha, he]
  · exact h.elim
theorem xE_Z {r : Nat → Nat → Nat} {M : XM} {k i n : Nat} (h : ¬ k < 10) (ha : xAk k = (3, n, 0, 3)) : xE D r M k i = .inl (D.2 3, n, .inl (fun c => gI M (100 * (k + 1)) i c)) := by
  rw [xE_arr h]
  unfold xCt
  rw [ha]
  rfl
def i_zald (k n f : Nat) (K : XK) : XK := fun ls st M bc bs => match st with
  | .inl y :: .inr (.inr (.inr (k1, o))) :: st => k1 = k ∧ vp_in y n ∧ ∃ i, o = some i ∧ K ls (vI (gI M f i y.toNatClampNeg) :: st) M bc bs
  | _ => False
theorem s_zald {k n f : Nat} (C : xC p s m args meth c cc nL own D b0) (hd : decode cc pc = .ok (.baload, 1)) (hk : ¬ k < 10 ∧ ¬ k = 99) (ha : xAk k = (3, n, 0, 3)) (hf : f = 100 * (k + 1)) (ls st M bc bs) (h : i_zald k n f (xAt p l e R s m args below meth c Q D b0 nL M0 r0 (pc + 1)) ls st M bc bs) : xAt p l e R s m args below meth c Q D b0 nL M0 r0 pc ls st M bc bs := by
  unfold i_zald at h
  split at h
  · next y k1 o st0 =>
    obtain ⟨rfl, hin, i, rfl, h⟩ := h
    subst hf
    intro r H locs cells slots als hS
    have hS2 := hS.2.2.2.2
    obtain ⟨ks, hks, hPw, hDw⟩ := hS.2.1
    obtain ⟨z, hz, hw⟩ := xW_at (D := D) (r := r) (M := M) ((hks k1 i).mp ⟨xhead (xtail hS2.1), hk.2⟩)
    rw [xE_Z hk.1 ha] at hw
    exact va_zald C.1 C.2.1 C.2.2.2.2.2.1.1 hPw z 3 hw rfl hin hd (h r H locs cells slots als ⟨hS.1, hS.2.1, hS.2.2.1, hS.2.2.2.1, xcons trivial (xtail (xtail hS2.1)), hS2.2⟩)
  · exact h.elim
def i_zast (k n f : Nat) (K : XK) : XK := fun ls st M bc bs => match st with
  | .inl x :: .inl y :: .inr (.inr (.inr (k1, o))) :: st => (x = 0 ∨ x = 1) ∧ k1 = k ∧ vp_in y n ∧ ∃ i, o = some i ∧ K ls st (sI M f i y.toNatClampNeg x) bc bs
  | _ => False
theorem s_zast {k n f : Nat} (C : xC p s m args meth c cc nL own D b0) (hd : decode cc pc = .ok (.bastore, 1)) (hk : ¬ k < 10 ∧ ¬ k = 99) (ha : xAk k = (3, n, 0, 3)) (hf : f = 100 * (k + 1)) (ls st M bc bs) (h : i_zast k n f (xAt p l e R s m args below meth c Q D b0 nL M0 r0 (pc + 1)) ls st M bc bs) : xAt p l e R s m args below meth c Q D b0 nL M0 r0 pc ls st M bc bs := by
  unfold i_zast at h
  split at h
  · next x y k1 o st0 =>
    obtain ⟨hx, rfl, hin, i, rfl, h⟩ := h
    subst hf
    intro r H locs cells slots als hS
    have hS2 := hS.2.2.2.2
    obtain ⟨ks, hks, hPw, hDw⟩ := hS.2.1
    obtain ⟨z, hz, hw⟩ := xW_at (D := D) (r := r) (M := M) ((hks k1 i).mp ⟨xhead (xtail (xtail hS2.1)), hk.2⟩)
    rw [xE_Z hk.1 ha] at hw
    have he : (upd (fun c => gI M (100 * (k1 + 1)) i c) y.toNatClampNeg (vp_nar .boolean x)) = (fun c => gI (sI M (100 * (k1 + 1)) i y.toNatClampNeg x) (100 * (k1 + 1)) i c) := by
      funext c
      rw [gI_sI]
      have hb : vp_nar .boolean x = x := by rcases hx with rfl | rfl <;> rfl
      rw [hb]
      by_cases q : c = y.toNatClampNeg
      · simp [upd, q]
      · simp [upd, q]
    refine va_zast C.1 C.2.1 C.2.2.2.2.2.1.1 hPw hDw hS2.2.1 z 3 hw rfl hin hd (fun H1 locs1 hP1 hD1 hS1 => ?_)
    refine h r H1 locs1 cells slots als (xSt_put hS xsub2 (fun _ _ => rfl) (xwf_same hS.2.2.1 (fun _ _ => rfl) (fun _ _ _ => rfl)) (xP_set hks hDw hz (xOth_sI M i y.toNatClampNeg x (by omega)) (fun _ _ => rfl) ?_ hP1 hD1) hS1)
    rw [xE_Z hk.1 ha, he]
  · exact h.elim
theorem xE_L {r : Nat → Nat → Nat} {M : XM} {k i n : Nat} (h : ¬ k < 10) (ha : xAk k = (1, n, 0, 1)) : xE D r M k i = .inl (D.2 1, n, .inr (.inl (fun c => gL M (100 * (k + 1)) i c))) := by
  rw [xE_arr h]
  unfold xCt
  rw [ha]
  rfl
def i_lald (k n f : Nat) (K : XK) : XK := fun ls st M bc bs => match st with
  | .inl y :: .inr (.inr (.inr (k1, o))) :: st => k1 = k ∧ vp_in y n ∧ ∃ i, o = some i ∧ K ls (vL (gL M f i y.toNatClampNeg) :: st) M bc bs
  | _ => False
theorem s_lald {k n f : Nat} (C : xC p s m args meth c cc nL own D b0) (hd : decode cc pc = .ok (.laload, 1)) (hk : ¬ k < 10 ∧ ¬ k = 99) (ha : xAk k = (1, n, 0, 1)) (hf : f = 100 * (k + 1)) (ls st M bc bs) (h : i_lald k n f (xAt p l e R s m args below meth c Q D b0 nL M0 r0 (pc + 1)) ls st M bc bs) : xAt p l e R s m args below meth c Q D b0 nL M0 r0 pc ls st M bc bs := by
  unfold i_lald at h
  split at h
  · next y k1 o st0 =>
    obtain ⟨rfl, hin, i, rfl, h⟩ := h
    subst hf
    intro r H locs cells slots als hS
    have hS2 := hS.2.2.2.2
    obtain ⟨ks, hks, hPw, hDw⟩ := hS.2.1
    obtain ⟨z, hz, hw⟩ := xW_at (D := D) (r := r) (M := M) ((hks k1 i).mp ⟨xhead (xtail hS2.1), hk.2⟩)
    rw [xE_L hk.1 ha] at hw
    exact va_lald C.1 C.2.1 C.2.2.2.2.2.1.1 hPw z 1 hw rfl hin hd (h r H locs cells slots als ⟨hS.1, hS.2.1, hS.2.2.1, hS.2.2.2.1, xcons trivial (xtail (xtail hS2.1)), hS2.2⟩)
  · exact h.elim
def i_last (k n f : Nat) (K : XK) : XK := fun ls st M bc bs => match st with
  | .inr (.inl x) :: .inl y :: .inr (.inr (.inr (k1, o))) :: st => k1 = k ∧ vp_in y n ∧ ∃ i, o = some i ∧ K ls st (sL M f i y.toNatClampNeg x) bc bs
  | _ => False
theorem s_last {k n f : Nat} (C : xC p s m args meth c cc nL own D b0) (hd : decode cc pc = .ok (.lastore, 1)) (hk : ¬ k < 10 ∧ ¬ k = 99) (ha : xAk k = (1, n, 0, 1)) (hf : f = 100 * (k + 1)) (ls st M bc bs) (h : i_last k n f (xAt p l e R s m args below meth c Q D b0 nL M0 r0 (pc + 1)) ls st M bc bs) : xAt p l e R s m args below meth c Q D b0 nL M0 r0 pc ls st M bc bs := by
  unfold i_last at h
  split at h
  · next x y k1 o st0 =>
    obtain ⟨rfl, hin, i, rfl, h⟩ := h
    subst hf
    intro r H locs cells slots als hS
    have hS2 := hS.2.2.2.2
    obtain ⟨ks, hks, hPw, hDw⟩ := hS.2.1
    obtain ⟨z, hz, hw⟩ := xW_at (D := D) (r := r) (M := M) ((hks k1 i).mp ⟨xhead (xtail (xtail hS2.1)), hk.2⟩)
    rw [xE_L hk.1 ha] at hw
    have he : (vp_updL (fun c => gL M (100 * (k1 + 1)) i c) y.toNatClampNeg x) = (fun c => gL (sL M (100 * (k1 + 1)) i y.toNatClampNeg x) (100 * (k1 + 1)) i c) := by
      funext c
      rw [gL_sL]
      skip
      by_cases q : c = y.toNatClampNeg
      · simp [vp_updL, q]
      · simp [vp_updL, q]
    refine va_last C.1 C.2.1 C.2.2.2.2.2.1.1 hPw hDw hS2.2.1 z 1 hw rfl hin hd (fun H1 locs1 hP1 hD1 hS1 => ?_)
    refine h r H1 locs1 cells slots als (xSt_put hS xsub2 (fun _ _ => rfl) (xwf_same hS.2.2.1 (fun _ _ => rfl) (fun _ _ _ => rfl)) (xP_set hks hDw hz (xOth_sL M i y.toNatClampNeg x (by omega)) (fun _ _ => rfl) ?_ hP1 hD1) hS1)
    rw [xE_L hk.1 ha, he]
  · exact h.elim
theorem xE_D {r : Nat → Nat → Nat} {M : XM} {k i n : Nat} (h : ¬ k < 10) (ha : xAk k = (2, n, 0, 2)) : xE D r M k i = .inl (D.2 2, n, .inr (.inr (.inr (.inl (fun c => gD M (100 * (k + 1)) i c))))) := by
  rw [xE_arr h]
  unfold xCt
  rw [ha]
  rfl
def i_dald (k n f : Nat) (K : XK) : XK := fun ls st M bc bs => match st with
  | .inl y :: .inr (.inr (.inr (k1, o))) :: st => k1 = k ∧ vp_in y n ∧ ∃ i, o = some i ∧ K ls (vD (gD M f i y.toNatClampNeg) :: st) M bc bs
  | _ => False
theorem s_dald {k n f : Nat} (C : xC p s m args meth c cc nL own D b0) (hd : decode cc pc = .ok (.daload, 1)) (hk : ¬ k < 10 ∧ ¬ k = 99) (ha : xAk k = (2, n, 0, 2)) (hf : f = 100 * (k + 1)) (ls st M bc bs) (h : i_dald k n f (xAt p l e R s m args below meth c Q D b0 nL M0 r0 (pc + 1)) ls st M bc bs) : xAt p l e R s m args below meth c Q D b0 nL M0 r0 pc ls st M bc bs := by
  unfold i_dald at h
  split at h
  · next y k1 o st0 =>
    obtain ⟨rfl, hin, i, rfl, h⟩ := h
    subst hf
    intro r H locs cells slots als hS
    have hS2 := hS.2.2.2.2
    obtain ⟨ks, hks, hPw, hDw⟩ := hS.2.1
    obtain ⟨z, hz, hw⟩ := xW_at (D := D) (r := r) (M := M) ((hks k1 i).mp ⟨xhead (xtail hS2.1), hk.2⟩)
    rw [xE_D hk.1 ha] at hw
    exact va_dald C.1 C.2.1 C.2.2.2.2.2.1.1 hPw z 2 hw rfl hin hd (h r H locs cells slots als ⟨hS.1, hS.2.1, hS.2.2.1, hS.2.2.2.1, xcons trivial (xtail (xtail hS2.1)), hS2.2⟩)
  · exact h.elim
def i_dast (k n f : Nat) (K : XK) : XK := fun ls st M bc bs => match st with
  | .inr (.inr (.inl x)) :: .inl y :: .inr (.inr (.inr (k1, o))) :: st => k1 = k ∧ vp_in y n ∧ ∃ i, o = some i ∧ K ls st (sD M f i y.toNatClampNeg x) bc bs
  | _ => False
theorem s_dast {k n f : Nat} (C : xC p s m args meth c cc nL own D b0) (hd : decode cc pc = .ok (.dastore, 1)) (hk : ¬ k < 10 ∧ ¬ k = 99) (ha : xAk k = (2, n, 0, 2)) (hf : f = 100 * (k + 1)) (ls st M bc bs) (h : i_dast k n f (xAt p l e R s m args below meth c Q D b0 nL M0 r0 (pc + 1)) ls st M bc bs) : xAt p l e R s m args below meth c Q D b0 nL M0 r0 pc ls st M bc bs := by
  unfold i_dast at h
  split at h
  · next x y k1 o st0 =>
    obtain ⟨rfl, hin, i, rfl, h⟩ := h
    subst hf
    intro r H locs cells slots als hS
    have hS2 := hS.2.2.2.2
    obtain ⟨ks, hks, hPw, hDw⟩ := hS.2.1
    obtain ⟨z, hz, hw⟩ := xW_at (D := D) (r := r) (M := M) ((hks k1 i).mp ⟨xhead (xtail (xtail hS2.1)), hk.2⟩)
    rw [xE_D hk.1 ha] at hw
    have he : (vf_upd (fun c => gD M (100 * (k1 + 1)) i c) y.toNatClampNeg x) = (fun c => gD (sD M (100 * (k1 + 1)) i y.toNatClampNeg x) (100 * (k1 + 1)) i c) := by
      funext c
      rw [gD_sD]
      skip
      by_cases q : c = y.toNatClampNeg
      · simp [vf_upd, q]
      · simp [vf_upd, q]
    refine va_dast C.1 C.2.1 C.2.2.2.2.2.1.1 hPw hDw hS2.2.1 z 2 hw rfl hin hd (fun H1 locs1 hP1 hD1 hS1 => ?_)
    refine h r H1 locs1 cells slots als (xSt_put hS xsub2 (fun _ _ => rfl) (xwf_same hS.2.2.1 (fun _ _ => rfl) (fun _ _ _ => rfl)) (xP_set hks hDw hz (xOth_sD M i y.toNatClampNeg x (by omega)) (fun _ _ => rfl) ?_ hP1 hD1) hS1)
    rw [xE_D hk.1 ha, he]
  · exact h.elim
end XR
