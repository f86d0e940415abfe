section XR
variable {p : Program} {l : Launch} {e : Env} {R : Room} {s : State} {m : MethodId} {args : Array Value} {below : List Frame} {meth : Method} {c : Code} {Q : State → Prop}
variable {cc : ByteArray} {nL : Nat} {own : String} {D : DX} {b0 : Nat} {M0 : XM} {r0 : Nat → Nat → Nat} {pc : Nat}
-- the ends
def i_ret0 (post : XM → Option XV → Prop) : XK := fun _ st M _ _ => match st with
  | [] => post M none
  | _ => False
abbrev xEnd (D : DX) (b0 : Nat) (r0 : Nat → Nat → Nat) (M0 : XM) (post : XM → Option XV → Prop) (below : List Frame) (args : Array Value) (s : State) (R : Room) : State → Prop := MQ below (xQc D b0 r0 M0 post) args s R.cells R.slots (fun q => b0 ≤ q)
def i_iret (post : XM → Option XV → Prop) : XK := fun _ st M _ _ => match st with
  | [.inl x] => post M (some (vI x))
  | _ => False
theorem s_iret {post : XM → Option XV → Prop} (C : xC p s m args meth c cc nL own D b0) (hr : meth.sig.returnType = some .int) (hd : decode cc pc = .ok (.ireturn, 1)) (ls st M bc bs) (h : i_iret post ls st M bc bs) : xAt p l e R s m args below meth c (xEnd D b0 r0 M0 post below args s R) D b0 nL M0 r0 pc ls st M bc bs := by
  unfold i_iret at h
  split at h
  · next x =>
    skip
    intro r H locs cells slots als hS
    obtain ⟨h1, h2, h3, h4, h5, h6, h7, h8, h9⟩ := hS
    refine W.widen (k := R.cells) (n := R.slots) (by omega) (by omega) ?_
    exact W.iret (hlocks := C.2.2.2.2.2.2.1) C.1 C.2.1 hr (fun t ht hW => ⟨M, r, some (vI x), rfl, h, by rw [ht]; exact h2, h3, (fun z hz => by cases hz; trivial), h9, h6.F ht⟩) h6.2.2 hd
  · exact h.elim
def i_zret (post : XM → Option XV → Prop) : XK := fun _ st M _ _ => match st with
  | [.inl x] => (x = 0 ∨ x = 1) ∧ post M (some (vI x))
  | _ => False
theorem s_zret {post : XM → Option XV → Prop} (C : xC p s m args meth c cc nL own D b0) (hr : meth.sig.returnType = some .boolean) (hd : decode cc pc = .ok (.ireturn, 1)) (ls st M bc bs) (h : i_zret post ls st M bc bs) : xAt p l e R s m args below meth c (xEnd D b0 r0 M0 post below args s R) D b0 nL M0 r0 pc ls st M bc bs := by
  unfold i_zret at h
  split at h
  · next x =>
    obtain ⟨hx, h⟩ := h
    intro r H locs cells slots als hS
    obtain ⟨h1, h2, h3, h4, h5, h6, h7, h8, h9⟩ := hS
    refine W.widen (k := R.cells) (n := R.slots) (by omega) (by omega) ?_
    exact W.zret (hlocks := C.2.2.2.2.2.2.1) C.1 C.2.1 hr (by rcases hx with rfl | rfl <;> rfl) (fun t ht hW => ⟨M, r, some (vI x), rfl, h, by rw [ht]; exact h2, h3, (fun z hz => by cases hz; trivial), h9, h6.F ht⟩) h6.2.2 hd
  · exact h.elim
def i_lret (post : XM → Option XV → Prop) : XK := fun _ st M _ _ => match st with
  | [.inr (.inl x)] => post M (some (vL x))
  | _ => False
theorem s_lret {post : XM → Option XV → Prop} (C : xC p s m args meth c cc nL own D b0) (hr : meth.sig.returnType = some .long) (hd : decode cc pc = .ok (.lreturn, 1)) (ls st M bc bs) (h : i_lret post ls st M bc bs) : xAt p l e R s m args below meth c (xEnd D b0 r0 M0 post below args s R) D b0 nL M0 r0 pc ls st M bc bs := by
  unfold i_lret at h
  split at h
  · next x =>
    skip
    intro r H locs cells slots als hS
    obtain ⟨h1, h2, h3, h4, h5, h6, h7, h8, h9⟩ := hS
    refine W.widen (k := R.cells) (n := R.slots) (by omega) (by omega) ?_
    exact W.lret (hlocks := C.2.2.2.2.2.2.1) C.1 C.2.1 hr (fun t ht hW => ⟨M, r, some (vL x), rfl, h, by rw [ht]; exact h2, h3, (fun z hz => by cases hz; trivial), h9, h6.F ht⟩) h6.2.2 hd
  · exact h.elim
def i_aret (post : XM → Option XV → Prop) : XK := fun _ st M _ _ => match st with
  | [.inr (.inr (.inr (k, o)))] => post M (some (vR k o))
  | _ => False
theorem s_aret {post : XM → Option XV → Prop} {Cn : String} (C : xC p s m args meth c cc nL own D b0) (hr : meth.sig.returnType = some (.object Cn)) (hd : decode cc pc = .ok (.areturn, 1)) (ls st M bc bs) (h : i_aret post ls st M bc bs) : xAt p l e R s m args below meth c (xEnd D b0 r0 M0 post below args s R) D b0 nL M0 r0 pc ls st M bc bs := by
  unfold i_aret at h
  split at h
  · next k o =>
    intro r H locs cells slots als hS
    obtain ⟨h1, h2, h3, h4, h5, h6, h7, h8, h9⟩ := hS
    refine W.widen (k := R.cells) (n := R.slots) (by omega) (by omega) ?_
    exact W.aret (hlocks := C.2.2.2.2.2.2.1) C.1 C.2.1 hr (Or.inl ⟨Cn, rfl⟩) (by cases o with | none => exact Or.inl rfl | some j => exact Or.inr ⟨_, rfl⟩) (fun t ht hW => ⟨M, r, some (vR k o), rfl, h, by rw [ht]; exact h2, h3, (fun z hz => by cases hz; exact xhead h5), h9, h6.F ht⟩) h6.2.2 hd
  · exact h.elim
theorem s_vret {post : XM → Option XV → Prop} (C : xC p s m args meth c cc nL own D b0) (hr : meth.sig.returnType = none) (hd : decode cc pc = .ok (.return_, 1)) (ls st M bc bs) (h : i_ret0 post ls st M bc bs) : xAt p l e R s m args below meth c (xEnd D b0 r0 M0 post below args s R) D b0 nL M0 r0 pc ls st M bc bs := by
  unfold i_ret0 at h
  split at h
  · intro r H locs cells slots als hS
    obtain ⟨h1, h2, h3, h4, h5, h6, h7, h8, h9⟩ := hS
    refine W.widen (k := R.cells) (n := R.slots) (by omega) (by omega) ?_
    exact W.vret (hlocks := C.2.2.2.2.2.2.1) C.1 C.2.1 hr (fun t ht hW => ⟨M, r, none, rfl, h, by rw [ht]; exact h2, h3, (fun z hz => by cases hz), h9, h6.F ht⟩) h6.2.2 hd
  · exact h.elim
-- the calls
theorem xafter {ls : List (Nat × XV)} {st st' : List XV} {M : XM} {bc bs mc ms : Nat} {r : Nat → Nat → Nat} {H : Heap} {locs : List Loc} {cells slots : Nat} {als : Array Slot} {a : Array Value} {st0 : List Value} (hS : xSt s R D b0 nL M0 r0 ls st M bc bs r H locs cells slots als) (hsub : ∀ v ∈ st', v ∈ st) (h1 : mc ≤ bc) (h2 : ms ≤ bs)
    (hrun : va_Run p l e R s m args below meth c H locs cells slots mc ms (F0 m pc als st0) (st'.map (xv r)) (xQc D b0 r M (fun M' v => xAt p l e R s m args below meth c Q D b0 nL M0 r0 (pc + 3) ls (v.toList ++ st') M' (bc - mc) (bs - ms)) a) (fun q => b0 ≤ q)) : W p l e R s m args below meth c H locs cells slots Q (F0 m pc als st0) := by
  intro T hT X
  obtain ⟨v, st₀, t, T', L, e0, X', hL, e1, e2, hq, hst⟩ := hrun T hT X
  obtain ⟨M', r', v', ho, hpost, hP', hw', hlv, hkeep, hF⟩ := hq
  injection ho with ho
  obtain ⟨a1, a2, a3, a4, a5, a6, a7, a8, a9⟩ := hS
  have hr : ∀ k i, gV M k i = true → r' k i = r k i := fun k i hk => (hkeep k i hk).1
  have hm : ∀ k i, gV M k i = true → gV M' k i = true := fun k i hk => (hkeep k i hk).2
  have el : ls.map (xvp r') = ls.map (xvp r) := List.map_congr_left (fun q hq => by show (q.1, xv r' q.2) = (q.1, xv r q.2); rw [xv_kept hr (a4 q hq)])
  have es : st'.map (xv r') = st'.map (xv r) := List.map_congr_left (fun z hz => xv_kept hr (a5 z (hsub z hz)))
  have hS' : va_S (fun q => b0 ≤ q) s.heap T'.heap (locs ++ L) := by
    obtain ⟨f1, f2⟩ := hF
    rw [e0] at f1 f2
    refine ⟨Nat.le_trans a6.1 (by rw [e1]; exact f1), fun q q1 q2 => ?_, fun q hq => ?_⟩
    · rw [e1, f2 q (Nat.lt_of_lt_of_le q1 a6.1) q2]
      exact a6.2.1 q q1 q2
    · rcases List.mem_append.mp hq with h | h
      · exact a6.2.2 q h
      · exact hL q h
  have hst2 : xSt s R D b0 nL M0 r0 ls (v'.toList ++ st') M' (bc - mc) (bs - ms) r' T'.heap (locs ++ L) (cells + mc) (slots + ms) als := by
    refine ⟨by rw [el]; exact a1, by rw [e1]; exact hP', hw', fun q hq => xlive_mono hm (a4 q hq), ?_, hS', by omega, by omega, fun k i hk => ⟨(hr k i (a9 k i hk).2).trans (a9 k i hk).1, hm k i (a9 k i hk).2⟩⟩
    intro z hz
    rcases List.mem_append.mp hz with h | h
    · exact hlv z (by simpa using h)
    · exact xlive_mono hm (a5 z (hsub z h))
  have hk := hpost r' T'.heap (locs ++ L) (cells + mc) (slots + ms) als hst2
  have ev : (v'.toList ++ st').map (xv r') = v.toList ++ st'.map (xv r) := by
    rw [List.map_append, es, ho]
    cases v' <;> rfl
  rw [ev] at hk
  obtain ⟨t2, b1, b2⟩ := hk T' rfl X'
  exact ⟨t2, hst t2 b1, b2⟩
def xsum (st : List XV) : Nat := (st.map xcat).sum
theorem xsum_ok (r : Nat → Nat → Nat) (st : List XV) : ((st.map (xv r)).map fun v => v.category).sum = xsum st := by
  unfold xsum
  rw [List.map_map]
  congr 1
  exact List.map_congr_left (fun v _ => xcat_ok r v)
theorem xblind {r : Nat → Nat → Nat} {av : List XV} {M : XM} : FrameBlind (xPc D b0 r av M) := by
  intro a U g mk h
  obtain ⟨h1, h2, h3, h4, h5, h6⟩ := h
  exact ⟨h1, h2, h3, h4, h5.same (by rfl), h6⟩
/-- what a call of y wants of the words -/
def xWy (y : MethodName) (bytes : ByteArray) (maxL : Nat) (ret : Option FieldType) (n : Nat) : Prop := Cond.code y bytes maxL ret ∈ wsG ∧ Cond.initialized y.cls ∈ wsG ∧ (y.cls ≠ "java/lang/invoke/MethodHandle" ∧ y.cls ≠ "java/lang/invoke/VarHandle") ∧ (parseMethodDescriptor y.desc).map (fun d => d.parameters.length) = some n ∧ maxL ≤ 24
theorem xgoodin {y : MethodName} {bytes : ByteArray} {maxL n : Nat} {ret : Option FieldType} (h : xWy y bytes maxL ret n) : GoodIn wsG (.code y bytes maxL ret :: wsG) := by
  intro w hw
  rcases List.mem_cons.mp hw with rfl | hw
  · exact ⟨h.1, good_of_word (xg_good h.1)⟩
  · exact ⟨hw, good_of_word (xg_good hw)⟩
theorem xcallB {index d mc ms n maxL : Nat} {y : MethodName} {bytes : ByteArray} {ret : Option FieldType} (C : xC p s m args meth c cc nL own D b0) (hy : xWy y bytes maxL ret n) (hl : Cond.methodLink own index y ∈ wsG) (hf : d + 1 ≤ R.frames) (hL : 48 * (d + 1) ≤ R.locals) : CallB R s args own index y bytes maxL ret (.code y bytes maxL ret :: wsG) ({ frames := d, cells := mc, slots := ms, locals := 48 * d }) mc ms n :=
  callB_of n C.2.2.2.2.1 (xgoodin hy) rfl rfl rfl (C.2.2.2.2.1 _ hy.2.1) (C.2.2.2.2.1 _ hl) ⟨hy.2.2.1.1, hy.2.2.1.2, hy.2.2.2.1⟩ ⟨hf, by have := hy.2.2.2.2; show 8 + (maxL + 11) + 48 * d ≤ R.locals; omega⟩
/-- the arguments of a call, out of the stack -/
theorem xargs {st : List XV} {n k i : Nat} {r : Nat → Nat → Nat} (h : st[n]? = some (vR k (some i))) : st.map (xv r) = (((st.take n).reverse).map (xv r)).reverse ++ .ref (r k i) :: (st.drop (n + 1)).map (xv r) ∧ (Value.ref (r k i) :: ((st.take n).reverse).map (xv r)) = ((st.take (n + 1)).reverse).map (xv r) ∧ (((st.take n).reverse).map (xv r)).length = n := by
  have hl : n < st.length := (List.getElem?_eq_some_iff.mp h).1
  have e1 : st = st.take n ++ vR k (some i) :: st.drop (n + 1) := by
    conv => lhs; rw [← List.take_append_drop n st]
    congr 1
    rw [List.drop_eq_getElem_cons hl]
    congr 1
    exact (List.getElem?_eq_some_iff.mp h).2
  refine ⟨?_, ?_, ?_⟩
  · conv => lhs; rw [e1]
    simp [xv, va_rf]
  · have e2 : st.take (n + 1) = st.take n ++ [vR k (some i)] := by
      rw [List.take_succ, h]
      rfl
    rw [e2]
    simp [xv, va_rf]
  · simp
    omega
theorem xargsS {st : List XV} {n : Nat} {r : Nat → Nat → Nat} (h : n ≤ st.length) : st.map (xv r) = (((st.take n).reverse).map (xv r)).reverse ++ (st.drop n).map (xv r) ∧ (((st.take n).reverse).map (xv r)).length = n := by
  refine ⟨?_, ?_⟩
  · conv => lhs; rw [← List.take_append_drop n st]
    simp
  · simp
    omega
/-- a call with a receiver of kind k and n arguments -/
def i_callV (l : Launch) (D : DX) (b0 k n d mc ms : Nat) (y : MethodName) (bytes : ByteArray) (maxL : Nat) (ret : Option FieldType) (K : XK) : XK := fun ls st M bc bs =>
  mc ≤ bc ∧ ms ≤ bs ∧ xsum (st.drop (n + 1)) ≤ 8 ∧ (∃ i, st[n]? = some (vR k (some i))) ∧ xMet l D b0 d mc ms y bytes maxL ret (st.take (n + 1)).reverse M (fun M' v => K ls (v.toList ++ st.drop (n + 1)) M' (bc - mc) (bs - ms))
def i_callS (l : Launch) (D : DX) (b0 n d mc ms : Nat) (y : MethodName) (bytes : ByteArray) (maxL : Nat) (ret : Option FieldType) (K : XK) : XK := fun ls st M bc bs =>
  mc ≤ bc ∧ ms ≤ bs ∧ xsum (st.drop n) ≤ 8 ∧ n ≤ st.length ∧ xMet l D b0 d mc ms y bytes maxL ret (st.take n).reverse M (fun M' v => K ls (v.toList ++ st.drop n) M' (bc - mc) (bs - ms))
theorem xrecv {k i N : Nat} {Cn : String} {T : u_T} {ty : Nat → FieldType} {M : XM} {r : Nat → Nat → Nat} {H : Heap} (hK : xK D s) (hc : xCls k Cn T N ty) (hP : xP D b0 r M H) (hv : gV M k i = true) : ∃ cell : Cell, H[r k i]? = some cell ∧ cell.vm.isStatics = false ∧ s.vm.findClass Cn = some cell.cls := by
  obtain ⟨ks, hk, hPw, hDw⟩ := hP
  obtain ⟨n, hn, hw⟩ := xW_at (D := D) (r := r) (M := M) ((hk k i).mp ⟨hv, by have := hc.1; omega⟩)
  rw [xE_obj hc.1] at hw
  exact va_recv hK.1 hPw hc.2.1 hw
theorem xpre {r : Nat → Nat → Nat} {M : XM} {H : Heap} {av : List XV} {al : List Value} (hK : xK D s) (hP : xP D b0 r M H) (hw : xwf M) (hl : ∀ v ∈ av, xlive M v) (hb : b0 ≤ H.size) (ha : al = av.map (xv r)) : ∀ U : State, U.heap = H → s.WarmedH U.vm → xPc D b0 r av M al.toArray U := by
  intro U hU hW
  subst ha
  exact ⟨by simp, by rw [hU]; exact hP, hw, hl, hK.moved hW, by rw [hU]; exact hb⟩
theorem xlv_take {M : XM} {st : List XV} {n : Nat} (h : ∀ v ∈ st, xlive M v) : ∀ v ∈ (st.take n).reverse, xlive M v := fun v hv => h v (List.mem_of_mem_take (List.mem_reverse.mp hv))
theorem s_callV {index k n d mc ms maxL N : Nat} {y : MethodName} {bytes : ByteArray} {ret : Option FieldType} {T : u_T} {ty : Nat → FieldType} (C : xC p s m args meth c cc nL own D b0) (hd : decode cc pc = .ok (.invokevirtual index, 3)) (hc : xCls k y.cls T N ty) (hy : xWy y bytes maxL ret n) (hl : Cond.methodLink own index y ∈ wsG) (hi : Cond.instanceMethod y ∈ wsG) (hse : Cond.selects y.cls y y ∈ wsG) (hf : d + 1 ≤ R.frames) (hL : 48 * (d + 1) ≤ R.locals) (ls st M bc bs) (h : i_callV l D b0 k n d mc ms y bytes maxL ret (xAt p l e R s m args below meth c Q D b0 nL M0 r0 (pc + 3)) ls st M bc bs) : xAt p l e R s m args below meth c Q D b0 nL M0 r0 pc ls st M bc bs := by
  obtain ⟨h1, h2, h3, ⟨i, h4⟩, hM⟩ := h
  intro r H locs cells slots als hS
  have hS2 := hS.2.2.2.2
  obtain ⟨e1, e2, e3⟩ := xargs (r := r) h4
  have hli : gV M k i = true := hS2.1 (vR k (some i)) (List.mem_of_getElem? h4)
  refine xafter (st' := st.drop (n + 1)) (a := (Value.ref (r k i) :: ((st.take n).reverse).map (xv r)).toArray) hS (fun v hv => List.mem_of_mem_drop hv) h1 h2 ?_
  exact va_runV (As := ((st.take n).reverse).map (xv r)) (C := y.cls) ⟨C.1, C.2.1, C.2.2.1, C.2.2.2.1, C.2.2.2.2.1⟩ (hM r) ⟨xcallB C hy hl hf hL, C.2.2.2.2.1 _ hi, C.2.2.2.2.1 _ hse⟩ ⟨xblind, xrecv C.2.2.2.2.2.1 hc hS.2.1 hli, xpre C.2.2.2.2.2.1 hS.2.1 hS.2.2.1 (xlv_take hS2.1) (Nat.le_trans C.2.2.2.2.2.2.2 hS2.2.1.1) e2⟩ rfl e3 hS.1.1 e1 (lv_room (by rw [xsum_ok]; exact h3)) hd ⟨by have := hS2.2.2.1; omega, by have := hS2.2.2.2.1; omega⟩
theorem s_callVN {index k n d mc ms maxL N : Nat} {y : MethodName} {bytes : ByteArray} {ret : Option FieldType} {T : u_T} {ty : Nat → FieldType} (C : xC p s m args meth c cc nL own D b0) (hd : decode cc pc = .ok (.invokevirtual index, 3)) (hc : xCls k y.cls T N ty) (hy : xWy y bytes maxL ret n) (hl : (own, index, y) ∈ xNM) (hi : Cond.instanceMethod y ∈ wsG) (hse : Cond.selects y.cls y y ∈ wsG) (hf : d + 1 ≤ R.frames) (hL : 48 * (d + 1) ≤ R.locals) (ls st M bc bs) (h : i_callV l D b0 k n d mc ms y bytes maxL ret (xAt p l e R s m args below meth c Q D b0 nL M0 r0 (pc + 3)) ls st M bc bs) : xAt p l e R s m args below meth c Q D b0 nL M0 r0 pc ls st M bc bs := by
  obtain ⟨h1, h2, h3, ⟨i, h4⟩, hM⟩ := h
  intro r H locs cells slots als hS
  have hS2 := hS.2.2.2.2
  obtain ⟨e1, e2, e3⟩ := xargs (r := r) h4
  have hli : gV M k i = true := hS2.1 (vR k (some i)) (List.mem_of_getElem? h4)
  have hts := C.2.2.2.2.1
  refine xafter (st' := st.drop (n + 1)) (a := (Value.ref (r k i) :: ((st.take n).reverse).map (xv r)).toArray) hS (fun v hv => List.mem_of_mem_drop hv) h1 h2 ?_
  exact va_runVN (As := ((st.take n).reverse).map (xv r)) (C := y.cls) (host := RX8) ⟨C.1, C.2.1, C.2.2.1, C.2.2.2.1, C.2.2.2.2.1⟩ (hM r) ⟨va_cnB n hts (xgoodin hy) rfl rfl rfl (C.2.2.2.2.2.1.2.2.1 _ hl) (hts _ hy.2.1) ⟨hy.2.2.1.1, hy.2.2.1.2, hy.2.2.2.1⟩ ⟨hf, by have := hy.2.2.2.2; show 8 + (maxL + 11) + 48 * d ≤ R.locals; omega⟩, hts _ hi, hts _ hse⟩ ⟨xblind, xrecv C.2.2.2.2.2.1 hc hS.2.1 hli, xpre C.2.2.2.2.2.1 hS.2.1 hS.2.2.1 (xlv_take hS2.1) (Nat.le_trans C.2.2.2.2.2.2.2 hS2.2.1.1) e2⟩ rfl e3 hS.1.1 e1 (lv_room (by rw [xsum_ok]; exact h3)) hd ⟨by have := hS2.2.2.1; omega, by have := hS2.2.2.2.1; omega⟩
theorem s_callI {index k n d mc ms maxL : Nat} {y : MethodName} {bytes : ByteArray} (C : xC p s m args meth c cc nL own D b0) (hd : decode cc pc = .ok (.invokespecial index, 3)) (hy : xWy y bytes maxL none n) (hl : Cond.methodLink own index y ∈ wsG) (hi : Cond.instanceMethod y ∈ wsG) (hy1 : y.name = "<init>") (hf : d + 1 ≤ R.frames) (hL : 48 * (d + 1) ≤ R.locals) (ls st M bc bs) (h : i_callV l D b0 k n d mc ms y bytes maxL none (xAt p l e R s m args below meth c Q D b0 nL M0 r0 (pc + 3)) ls st M bc bs) : xAt p l e R s m args below meth c Q D b0 nL M0 r0 pc ls st M bc bs := by
  obtain ⟨h1, h2, h3, ⟨i, h4⟩, hM⟩ := h
  intro r H locs cells slots als hS
  have hS2 := hS.2.2.2.2
  obtain ⟨e1, e2, e3⟩ := xargs (r := r) h4
  refine xafter (st' := st.drop (n + 1)) (a := (Value.ref (r k i) :: ((st.take n).reverse).map (xv r)).toArray) hS (fun v hv => List.mem_of_mem_drop hv) h1 h2 ?_
  exact va_runI (As := ((st.take n).reverse).map (xv r)) ⟨C.1, C.2.1, C.2.2.1, C.2.2.2.1, C.2.2.2.2.1⟩ (hM r) ⟨xcallB C hy hl hf hL, hy1, C.2.2.2.2.1 _ hi⟩ ⟨xblind, xpre C.2.2.2.2.2.1 hS.2.1 hS.2.2.1 (xlv_take hS2.1) (Nat.le_trans C.2.2.2.2.2.2.2 hS2.2.1.1) e2⟩ rfl e3 hS.1.1 e1 (lv_room (by rw [xsum_ok]; exact h3)) hd ⟨by have := hS2.2.2.1; omega, by have := hS2.2.2.2.1; omega⟩
theorem s_callIN {index k n d mc ms maxL : Nat} {y : MethodName} {bytes : ByteArray} (C : xC p s m args meth c cc nL own D b0) (hd : decode cc pc = .ok (.invokespecial index, 3)) (hy : xWy y bytes maxL none n) (hl : (own, index, y) ∈ xNM) (hi : Cond.instanceMethod y ∈ wsG) (hy1 : y.name = "<init>") (hf : d + 1 ≤ R.frames) (hL : 48 * (d + 1) ≤ R.locals) (ls st M bc bs) (h : i_callV l D b0 k n d mc ms y bytes maxL none (xAt p l e R s m args below meth c Q D b0 nL M0 r0 (pc + 3)) ls st M bc bs) : xAt p l e R s m args below meth c Q D b0 nL M0 r0 pc ls st M bc bs := by
  obtain ⟨h1, h2, h3, ⟨i, h4⟩, hM⟩ := h
  intro r H locs cells slots als hS
  have hS2 := hS.2.2.2.2
  obtain ⟨e1, e2, e3⟩ := xargs (r := r) h4
  have hts := C.2.2.2.2.1
  refine xafter (st' := st.drop (n + 1)) (a := (Value.ref (r k i) :: ((st.take n).reverse).map (xv r)).toArray) hS (fun v hv => List.mem_of_mem_drop hv) h1 h2 ?_
  exact va_runIN (As := ((st.take n).reverse).map (xv r)) (host := RX8) ⟨C.1, C.2.1, C.2.2.1, C.2.2.2.1, C.2.2.2.2.1⟩ (hM r) ⟨va_cnB n hts (xgoodin hy) rfl rfl rfl (C.2.2.2.2.2.1.2.2.1 _ hl) (hts _ hy.2.1) ⟨hy.2.2.1.1, hy.2.2.1.2, hy.2.2.2.1⟩ ⟨hf, by have := hy.2.2.2.2; show 8 + (maxL + 11) + 48 * d ≤ R.locals; omega⟩, hy1, hts _ hi⟩ ⟨xblind, xpre C.2.2.2.2.2.1 hS.2.1 hS.2.2.1 (xlv_take hS2.1) (Nat.le_trans C.2.2.2.2.2.2.2 hS2.2.1.1) e2⟩ rfl e3 hS.1.1 e1 (lv_room (by rw [xsum_ok]; exact h3)) hd ⟨by have := hS2.2.2.1; omega, by have := hS2.2.2.2.1; omega⟩
theorem s_callS {index n d mc ms maxL : Nat} {y : MethodName} {bytes : ByteArray} {ret : Option FieldType} (C : xC p s m args meth c cc nL own D b0) (hd : decode cc pc = .ok (.invokestatic index, 3)) (hy : xWy y bytes maxL ret n) (hl : Cond.methodLink own index y ∈ wsG) (hst : Cond.static y ∈ wsG) (hf : d + 1 ≤ R.frames) (hL : 48 * (d + 1) ≤ R.locals) (ls st M bc bs) (h : i_callS l D b0 n d mc ms y bytes maxL ret (xAt p l e R s m args below meth c Q D b0 nL M0 r0 (pc + 3)) ls st M bc bs) : xAt p l e R s m args below meth c Q D b0 nL M0 r0 pc ls st M bc bs := by
  obtain ⟨h1, h2, h3, h4, hM⟩ := h
  intro r H locs cells slots als hS
  have hS2 := hS.2.2.2.2
  obtain ⟨e1, e3⟩ := xargsS (r := r) h4
  refine xafter (st' := st.drop n) (a := (((st.take n).reverse).map (xv r)).toArray) hS (fun v hv => List.mem_of_mem_drop hv) h1 h2 ?_
  exact va_runS (As := ((st.take n).reverse).map (xv r)) ⟨C.1, C.2.1, C.2.2.1, C.2.2.2.1, C.2.2.2.2.1⟩ (hM r) ⟨xcallB C hy hl hf hL, C.2.2.2.2.1 _ hst⟩ ⟨xblind, xpre C.2.2.2.2.2.1 hS.2.1 hS.2.2.1 (xlv_take hS2.1) (Nat.le_trans C.2.2.2.2.2.2.2 hS2.2.1.1) rfl⟩ rfl e3 hS.1.1 e1 (lv_room (by rw [xsum_ok]; exact h3)) hd ⟨by have := hS2.2.2.1; omega, by have := hS2.2.2.2.1; omega⟩
/-- Object's constructor -/
def i_obj (K : XK) : XK := fun ls st M bc bs => match st with
  | .inr (.inr (.inr (_, some _))) :: st => xsum st ≤ 8 ∧ K ls st M bc bs
  | _ => False
theorem s_obj {index : Nat} (C : xC p s m args meth c cc nL own D b0) (hd : decode cc pc = .ok (.invokespecial index, 3)) (hl : Cond.methodLink own index Lib.objectInit ∈ wsG) (hi : Cond.instanceMethod Lib.objectInit ∈ wsG) (hco : Cond.code Lib.objectInit ⟨#[0xb1]⟩ 1 none ∈ wsG) (hf : 1 ≤ R.frames) (hL : 48 ≤ R.locals) (ls st M bc bs) (h : i_obj (xAt p l e R s m args below meth c Q D b0 nL M0 r0 (pc + 3)) ls st M bc bs) : xAt p l e R s m args below meth c Q D b0 nL M0 r0 pc ls st M bc bs := by
  unfold i_obj at h
  split at h
  · next k0 j st0 =>
    obtain ⟨h1, h⟩ := h
    intro r H locs cells slots als hS
    have hS2 := hS.2.2.2.2
    have hts := C.2.2.2.2.1
    refine W.objInit C.1 C.2.1 C.2.2.2.1 (hts _ hl) (hts _ hi) (hts _ hco) rfl (by rw [C.2.2.1]; exact hS.1.1) rfl hd hf (by have h8 := lv_room (m := m) (pc := pc) (ls := als) (rest := (st0.map (xv r))) (st := st0.map (xv r)) (by rw [xsum_ok]; exact h1); show 2 * 0 + _ + 12 ≤ R.locals; rw [xsum_ok]; omega) ?_
    exact h r H locs cells slots als ⟨hS.1, hS.2.1, hS.2.2.1, hS.2.2.2.1, xtail hS2.1, hS2.2⟩
  · exact h.elim
def xent : Nat → List XV → List (Nat × XV)
  | _, [] => []
  | i, v :: t => (i, v) :: xent (if xcat v = 2 then i + 2 else i + 1) t
theorem xent_map (r : Nat → Nat → Nat) (av : List XV) : ∀ i, lv_args i (av.map (xv r)) = (xent i av).map (xvp r) := by
  induction av with
  | nil => intro i; rfl
  | cons v t ih =>
    intro i
    show (i, xv r v) :: lv_args (if (xv r v).category = 2 then i + 2 else i + 1) (t.map (xv r)) = (i, xv r v) :: (xent (if xcat v = 2 then i + 2 else i + 1) t).map (xvp r)
    rw [xcat_ok, ih]
theorem xent_mem (av : List XV) : ∀ i, ∀ q ∈ xent i av, q.2 ∈ av := by
  induction av with
  | nil => intro i q hq; cases hq
  | cons v t ih =>
    intro i q hq
    rcases List.mem_cons.mp hq with rfl | hq
    · exact List.mem_cons_self
    · exact List.mem_cons_of_mem _ (ih _ q hq)
theorem xent_len (r : Nat → Nat → Nat) (vs : List XV) : (lg_sl (vs.map (xv r))).length = (vs.map xcat).sum := by
  induction vs with
  | nil => rfl
  | cons v t ih =>
    rw [List.map_cons, List.map_cons, List.sum_cons, ← ih]
    unfold lg_sl
    rw [List.flatMap_cons, List.length_append]
    congr 1
    rcases v with x | x | x | ⟨k, _ | o⟩ <;> rfl
/-- a method's contract out of the walk of its body -/
theorem xMet.of {d mc ms maxL : Nat} {y : MethodName} {bytes : ByteArray} {ret : Option FieldType} {av : List XV} {M : XM} {post : XM → Option XV → Prop} {l : Launch} {D : DX} {b0 : Nat} (hp : plainName y.cls = true) (hlen : (av.map xcat).sum ≤ maxL)
    (body : ∀ (p : Program) (e : Env) (R : Room) (s : State) (m : MethodId) (args : Array Value) (below : List Frame) (meth : Method) (c : Code) (r0 : Nat → Nat → Nat), R.frames = d → R.locals = 48 * d → xC p s m args meth c bytes maxL y.cls D b0 → meth.sig.returnType = ret → meth.name = y.name →
      xAt p l e R s m args below meth c (xEnd D b0 r0 M post below args s R) D b0 maxL M r0 0 (xent 0 av) [] M mc ms) : xMet l D b0 d mc ms y bytes maxL ret av M post := by
  intro r0
  refine Met.ofW (cc := bytes) (maxL := maxL) (ret := ret) hp rfl ?_
  intro p e s m args below meth c s₁ B hml hv
  obtain ⟨rfl, hP, hw, hl, hK, hb⟩ := hv
  have hts := atoms_spec (ws := .code y bytes maxL ret :: wsG) B.pre
  have C : xC p s m (av.map (xv r0)).toArray meth c bytes maxL y.cls D b0 := ⟨B.exec, B.bytes, hml, findClass_of_methodNamed B.named, fun w hw => hts w (List.mem_cons_of_mem _ hw), hK, B.notSynchronized, hb⟩
  have hbody := body p e ({ frames := d, cells := mc, slots := ms, locals := 48 * d }) s m _ below meth c r0 rfl rfl C B.returns (name_of_methodNamed B.named B.method).1
  have hle := lv_entry (av.map (xv r0)) (n := maxL) (by rw [xent_len]; exact hlen)
  rw [lg_entry_eq]
  generalize (lg_sl (av.map (xv r0)) ++ List.replicate (maxL - (lg_sl (av.map (xv r0))).length) Slot.unset).toArray = als at hle ⊢
  rw [xent_map] at hle
  exact hbody r0 s.heap [] 0 0 als ⟨hle, hP, hw, fun q hq => hl q.2 (xent_mem av 0 q hq), (fun v hv => absurd hv List.not_mem_nil), va_S.rf, by show 0 + mc ≤ mc; omega, by show 0 + ms ≤ ms; omega, fun k i hk => ⟨rfl, hk⟩⟩
end XR
