/-! 'place', which throws, and the law's own 'place', which catches. -/
abbrev xIAE : String := "java/lang/IllegalArgumentException"
abbrev xUps : List String := ["java/lang/RuntimeException", "java/lang/Exception"]
abbrev xTx : String := "there is no such place"
def xDecl : List MethodName := [(⟨"java/lang/RuntimeException", "<init>", "()V"⟩ : MethodName), (⟨"java/lang/RuntimeException", "<init>", "(Ljava/lang/String;)V"⟩ : MethodName), (⟨"java/lang/Exception", "<init>", "()V"⟩ : MethodName), (⟨"java/lang/Exception", "<init>", "(Ljava/lang/String;)V"⟩ : MethodName), (⟨"java/lang/Throwable", "<init>", "()V"⟩ : MethodName), (⟨"java/lang/Throwable", "<init>", "(Ljava/lang/String;)V"⟩ : MethodName)]
def xBad : List Cond := .castable xIAE xIAE :: xDecl.map Cond.declares
theorem xbad_in : ∀ w ∈ (vx_atS RX8 179 xIAE xUps).filter (fun w => !goodWord w), w ∈ xBad := by decide +kernel
theorem xgood_tbl : ∀ w ∈ (vx_atS RX8 179 xIAE xUps).filter goodWord, w ∈ lw_tbl := by decide +kernel
theorem xgood_in : ∀ w ∈ (vx_atS RX8 179 xIAE xUps).filter goodWord, w ∈ wsG := fun w h => List.mem_filter.mpr ⟨xgood_tbl w h, (List.mem_filter.mp h).2⟩
theorem xgood_ot : ∀ w ∈ Cond.classLink RX8 175 xIAE :: Cond.initialized xIAE :: vx_atS RX8 179 xIAE xUps, vx_ot w = true := by decide +kernel
/-- what a throw wants of the start: the words that may not be kept by themselves, two statics, the text -/
def xKX (b0 sa : Nat) (U : State) : Prop := (∀ q ∈ xDecl, va_Nw (.declares q) U) ∧ va_Nw (.castable xIAE xIAE) U ∧ vx_Zq Bundle.tN "UNASSIGNED_STACK" Bundle.steD (fun q => b0 ≤ q) U U.heap ∧ vx_Zq Bundle.tN "SUPPRESSED_SENTINEL" Bundle.listD (fun q => b0 ≤ q) U U.heap ∧ vk_R RX8 177 xTx sa U
theorem xKX.moved {b0 sa : Nat} {s U : State} {locs : List Loc} (h : xKX b0 sa s) (hW : s.WarmedH U.vm) (hS : va_S (fun q => b0 ≤ q) s.heap U.heap locs) : xKX b0 sa U :=
  ⟨fun q hq => (h.1 q hq).warmD hW, h.2.1.warmC hW, vx_Zq.moved hW.alike (h.2.2.1.kept hS.2.1), vx_Zq.moved hW.alike (h.2.2.2.1.kept hS.2.1), vk_R.warm hW h.2.2.2.2⟩
theorem xKX.same {b0 sa : Nat} {s U : State} (h : xKX b0 sa s) (hv : U.vm = s.vm) (hh : U.heap = s.heap) : xKX b0 sa U :=
  ⟨fun q hq => va_Nw.same rfl hv.symm (h.1 q hq), va_Nw.same rfl hv.symm h.2.1, by rw [hh]; exact vx_Zq.moved (by rw [hv]; exact Vm.Alike.refl _) h.2.2.1, by rw [hh]; exact vx_Zq.moved (by rw [hv]; exact Vm.Alike.refl _) h.2.2.2.1, vk_R.same hv h.2.2.2.2⟩
def xPcX (D : DX) (b0 sa : Nat) (r0 : Nat → Nat → Nat) (av : List XV) (M : XM) : Array Value → State → Prop := fun a U => xPc D b0 r0 av M a U ∧ xKX b0 sa U
theorem xblindX {D : DX} {b0 sa : Nat} {r : Nat → Nat → Nat} {av : List XV} {M : XM} : FrameBlind (xPcX D b0 sa r av M) := by
  intro a U g mk h
  exact ⟨xblind _ _ _ _ h.1, h.2.same (by rfl) (by rfl)⟩
def xXc (D : DX) (b0 : Nat) (r0 : Nat → Nat → Nat) (M : XM) (px : XM → Prop) : String → State → State → Prop := fun E st t => E = xIAE ∧ ∃ (M' : XM) (r' : Nat → Nat → Nat), px M' ∧ xP D b0 r' M' t.heap ∧ xwf M' ∧ (∀ k i, gV M k i = true → r' k i = r0 k i ∧ gV M' k i = true) ∧ va_F (fun q => b0 ≤ q) st t
/-- the contract of a method that may throw an IllegalArgumentException -/
def xMetT (l : Launch) (D : DX) (b0 sa d : Nat) (av : List XV) (M : XM) (post : XM → Option XV → Prop) (px : XM → Prop) : Prop :=
  ∀ r0 : Nat → Nat → Nat, vx_Met l yX8_place (.code yX8_place cX8_place 4 (some .long) :: wsG) ({ frames := d, cells := 1, slots := 6, locals := 48 * d }) (xPcX D b0 sa r0 av M) (xQc D b0 r0 M post) (xXc D b0 r0 M px) 1 6 (fun q => b0 ≤ q)
def i_thr (px : XM → Prop) : XK := fun _ st M bc bs => xsum st ≤ 8 ∧ 1 ≤ bc ∧ 6 ≤ bs ∧ px M
section XR
variable {p : Program} {l : Launch} {e : Env} {R : Room} {s : State} {m : MethodId} {args : Array Value} {below : List Frame} {meth : Method} {c : Code} {Q : State → Prop}
variable {cc : ByteArray} {nL : Nat} {own : String} {D : DX} {b0 sa : Nat} {M0 : XM} {r0 : Nat → Nat → Nat} {pc : Nat}
abbrev xEndX (D : DX) (b0 : Nat) (r0 : Nat → Nat → Nat) (M0 : XM) (post : XM → Option XV → Prop) (px : XM → Prop) (below : List Frame) (args : Array Value) (s : State) (R : Room) : State → Prop := vx_MQ below (xQc D b0 r0 M0 post) (xXc D b0 r0 M0 px) args s R.cells R.slots (fun q => b0 ≤ q)
theorem c_lretX {post : XM → Option XV → Prop} {px : XM → Prop} (C : xC p s m args meth c cc nL own D b0) (hr : meth.sig.returnType = some .long) (hd : decode cc pc = .ok (.lreturn, 1)) : XMono (i_lret post) (xAt p l e R s m args below meth c (xEndX D b0 r0 M0 post px below args s R) D b0 nL M0 r0 pc) := by
  intro ls st M bc bs h r H locs cells slots als hS
  exact vx_ret (s_lret C hr hd ls st M bc bs h r H locs cells slots als hS)
theorem xP_kept {r : Nat → Nat → Nat} {M : XM} {H H1 : Heap} (hP : xP D b0 r M H) (hk : ∀ q : Nat, q < H.size → H1[q]? = H[q]?) : xP D b0 r M H1 := by
  obtain ⟨ks, h1, h2, h3⟩ := hP
  exact ⟨ks, h1, h2.kept (fun k x hx => hk x.1 ((h2 k x hx).lt)), h3⟩
theorem xafterT {ls : List (Nat × XV)} {st st' : List XV} {M : XM} {bc bs mc ms : Nat} {r : Nat → Nat → Nat} {H : Heap} {locs : List Loc} {cells slots : Nat} {als : Array Slot} {a : Array Value} {st0 : List Value} (hS : xSt s R D b0 nL M0 r0 ls st M bc bs r H locs cells slots als) (hsub : ∀ v ∈ st', v ∈ st) (h1 : mc ≤ bc) (h2 : ms ≤ bs)
    {T : State} (hgo : ∃ (v : Option Value) (st₀ t T' : State) (L : List Loc), st₀.heap = H ∧ Stand p l e R s m args below meth c T' (locs ++ L) (cells + mc) (slots + ms) ∧ (∀ q ∈ L, b0 ≤ q.base) ∧ T'.heap = t.heap ∧ T'.vm = t.vm ∧ xQc D b0 r M (fun M' v => xAt p l e R s m args below meth c Q D b0 nL M0 r0 (pc + 3) ls (v.toList ++ st') M' (bc - mc) (bs - ms)) a st₀ (.returned v) t ∧ Goes p e below T (F0 m pc als st0) T' { (F0 m pc als st0) with pc := (F0 m pc als st0).pc + 3, stack := v.toList ++ (st'.map (xv r)) }) : ∃ t2, Steps p.tables e below (T.setTop (F0 m pc als st0)) t2 ∧ Q t2 := by
  obtain ⟨v, st₀, t, T', L, e0, X', hL, e1, e2, hq, hst⟩ := hgo
  obtain ⟨M', r', v', ho, hpost, hP', hw', hlv, hkeep, hF⟩ := hq
  injection ho with ho
  obtain ⟨a1, a2, a3, a4, a5, a6, a7, a8, a9⟩ := hS
  have hr : ∀ k i, gV M k i = true → r' k i = r k i := fun k i hk => (hkeep k i hk).1
  have hm : ∀ k i, gV M k i = true → gV M' k i = true := fun k i hk => (hkeep k i hk).2
  have el : ls.map (xvp r') = ls.map (xvp r) := List.map_congr_left (fun q hq => by show (q.1, xv r' q.2) = (q.1, xv r q.2); rw [xv_kept hr (a4 q hq)])
  have es : st'.map (xv r') = st'.map (xv r) := List.map_congr_left (fun z hz => xv_kept hr (a5 z (hsub z hz)))
  have hS' : va_S (fun q => b0 ≤ q) s.heap T'.heap (locs ++ L) := by
    obtain ⟨f1, f2⟩ := hF
    rw [e0] at f1 f2
    refine ⟨Nat.le_trans a6.1 (by rw [e1]; exact f1), fun q q1 q2 => ?_, fun q hq => ?_⟩
    · rw [e1, f2 q (Nat.lt_of_lt_of_le q1 a6.1) q2]
      exact a6.2.1 q q1 q2
    · rcases List.mem_append.mp hq with h | h
      · exact a6.2.2 q h
      · exact hL q h
  have hst2 : xSt s R D b0 nL M0 r0 ls (v'.toList ++ st') M' (bc - mc) (bs - ms) r' T'.heap (locs ++ L) (cells + mc) (slots + ms) als := by
    refine ⟨by rw [el]; exact a1, by rw [e1]; exact hP', hw', fun q hq => xlive_mono hm (a4 q hq), ?_, hS', by omega, by omega, fun k i hk => ⟨(hr k i (a9 k i hk).2).trans (a9 k i hk).1, hm k i (a9 k i hk).2⟩⟩
    intro z hz
    rcases List.mem_append.mp hz with h | h
    · exact hlv z (by simpa using h)
    · exact xlive_mono hm (a5 z (hsub z h))
  have hk := hpost r' T'.heap (locs ++ L) (cells + mc) (slots + ms) als hst2
  have ev : (v'.toList ++ st').map (xv r') = v.toList ++ st'.map (xv r) := by
    rw [List.map_append, es, ho]
    cases v' <;> rfl
  rw [ev] at hk
  obtain ⟨t2, b1, b2⟩ := hk T' rfl X'
  exact ⟨t2, hst t2 b1, b2⟩
theorem c_thr {post : XM → Option XV → Prop} {px : XM → Prop} (hst : l.stackTraces = false) (C : xC p s m args meth c cX8_place 4 RX8 D b0) (hX : xKX b0 sa s) {hf : R.frames = 8} {hL : R.locals = 48 * 8} (hno : ∀ x ∈ c.exceptionTable.toList, False) : XMono (i_thr px) (xAt p l e R s m args below meth c (xEndX D b0 r0 M0 post px below args s R) D b0 4 M0 r0 22) := by
  intro ls st M bc bs h r H locs cells slots als hS
  obtain ⟨hsm, h1, h2, h3⟩ := h
  obtain ⟨a1, a2, a3, a4, a5, a6, a7, a8, a9⟩ := hS
  have hts := C.2.2.2.2.1
  refine vx_throwS (text := xTx) (names := xUps) (cls := xIAE) (A := fun q => b0 ≤ q) C.1 C.2.1 hst C.2.2.2.1 (by decide +kernel) (by decide +kernel) (hts _ kw_669) (hts _ kw_17) hX.2.2.2.2 ?_ xgood_ot hX.2.2.1 hX.2.2.2.1 a6 (by rw [C.2.2.1]; exact a1.1) dX8_place_22 dX8_place_25 dX8_place_26 dX8_place_28 dX8_place_31 (fun x hx => (hno x hx).elim) (by rw [hf]; decide) (by rw [xsum_ok, hL]; show xsum st + (13 * (2 + 1) + 43) ≤ _; omega) (by omega) (by omega) C.2.2.2.2.2.2.1 ?_ a6.2.2 (by omega) (by omega)
  · refine vx_hat (B := xBad) (fun w hw => hts w (xgood_in w hw)) xbad_in ?_
    intro w hw
    rcases List.mem_cons.mp hw with rfl | hw
    · exact va_Nw.use rfl hX.2.1
    · obtain ⟨q, hq, rfl⟩ := List.mem_map.mp hw
      exact va_Nw.use rfl (hX.1 q hq)
  · intro t _ hsz hk
    refine ⟨rfl, M, r, h3, xP_kept a2 hk, a3, a9, Nat.le_trans a6.1 hsz, fun q q1 q2 => ?_⟩
    rw [hk q (Nat.lt_of_lt_of_le q1 a6.1)]
    exact a6.2.1 q q1 q2
def BX8_place_0 (l : Launch) (D : DX) (b0 : Nat) (post : XM → Option XV → Prop) (px : XM → Prop) : XK := (i_ald 0 (i_getR 8 901 6 (i_ild 1 (i_callV l D b0 6 1 1 0 0 yX6_contractAt cX6_contractAt 2 (some (FieldType.object "ContractLoaders$Contract")) (i_ast 3 (i_ald 3 (i_ifnull (i_thr px) (i_ild 2 (i_if_lt (i_thr px) (i_ild 2 (i_ci 4 (i_icmp_lt (i_ald 0 (i_getR 8 901 6 (i_getR 6 703 7 (i_ald 3 (i_getI 1 201 (i_ald 3 (i_callV l D b0 1 0 1 0 0 yX1_firstCell cX1_firstCell 1 (some FieldType.int) (i_ild 2 (i_iadd (i_callV l D b0 7 2 2 0 0 yX7_shown cX7_shown 3 (some FieldType.long) (i_lret post))))))))))) (i_thr px)))))))))))))
theorem MTX8_place {l : Launch} {D : DX} {b0 sa : Nat} {av : List XV} {M : XM} {post : XM → Option XV → Prop} {px : XM → Prop} (hst : l.stackTraces = false) (hlen : (av.map xcat).sum ≤ 4) (h : BX8_place_0 l D b0 post px (xent 0 av) [] M 1 6) : xMetT l D b0 sa 8 av M post px := by
  intro r0
  refine vx_ofW (cc := cX8_place) (maxL := 4) (ret := some .long) (by decide +kernel) rfl ?_
  intro p e s m args below meth c s₁ B hml hno hv
  obtain ⟨⟨rfl, hP, hw, hl, hK, hb⟩, hX⟩ := hv
  have hts := atoms_spec (ws := .code yX8_place cX8_place 4 (some .long) :: wsG) B.pre
  have C : xC p s m (av.map (xv r0)).toArray meth c cX8_place 4 RX8 D b0 := ⟨B.exec, B.bytes, hml, findClass_of_methodNamed B.named, fun w hw => hts w (List.mem_cons_of_mem _ hw), hK, B.notSynchronized, hb⟩
  have hr := B.returns
  have hf : ({ frames := 8, cells := 1, slots := 6, locals := 48 * 8 } : Room).frames = 8 := rfl
  have hL : ({ frames := 8, cells := 1, slots := 6, locals := 48 * 8 } : Room).locals = 48 * 8 := rfl
  have hM : XMono (BX8_place_0 l D b0 post px) (xAt p l e ({ frames := 8, cells := 1, slots := 6, locals := 48 * 8 }) s m (av.map (xv r0)).toArray below meth c (xEndX D b0 r0 M post px below (av.map (xv r0)).toArray s ({ frames := 8, cells := 1, slots := 6, locals := 48 * 8 })) D b0 4 M r0 0) := (c_aload_n C dX8_place_0 rfl (c_getR (d := (3, 6)) (j := 1) C dX8_place_1 xcl8 rfl rfl rfl kw_165 (c_iload_n C dX8_place_4 rfl (c_callV C dX8_place_5 xcl6 wy_X6_contractAt kw_462 kw_463 kw_464 (by rw [hf]; omega) (by rw [hL]; omega) (c_astore_n C dX8_place_8 rfl (by decide) (c_aload_n C dX8_place_9 rfl (c_ifnull (tgt := 22) C dX8_place_10 (by decide) (c_thr hst C hX (hf := hf) (hL := hL) hno) (c_iload_n C dX8_place_13 rfl (c_if_lt (tgt := 22) C dX8_place_14 (by decide) (c_thr hst C hX (hf := hf) (hL := hL) hno) (c_iload_n C dX8_place_17 rfl (c_iconst C dX8_place_18 (by decide) (c_icmp_lt (tgt := 32) C dX8_place_19 (by decide) (c_aload_n C dX8_place_32 rfl (c_getR (d := (3, 6)) (j := 1) C dX8_place_33 xcl8 rfl rfl rfl kw_165 (c_getRN (d := (3, 7)) (j := 3) C dX8_place_36 xcl6 rfl rfl rfl xnf6 (c_aload_n C dX8_place_39 rfl (c_getI (d := (0, 0)) (j := 1) C dX8_place_40 xcl1 rfl (Or.inl rfl) rfl kw_442 (c_aload_n C dX8_place_43 rfl (c_callV C dX8_place_44 xcl1 wy_X1_firstCell kw_470 kw_471 kw_472 (by rw [hf]; omega) (by rw [hL]; omega) (c_iload_n C dX8_place_47 rfl (c_iadd C dX8_place_48 (c_callV C dX8_place_49 xcl7 wy_X7_shown kw_735 kw_736 kw_737 (by rw [hf]; omega) (by rw [hL]; omega) (c_lretX C hr dX8_place_52))))))))))) (c_thr hst C hX (hf := hf) (hL := hL) hno)))))))))))))
  have hbody := hM _ _ _ _ _ h
  have hle := lv_entry (av.map (xv r0)) (n := 4) (by rw [xent_len]; exact hlen)
  rw [lg_entry_eq]
  generalize (lg_sl (av.map (xv r0)) ++ List.replicate (4 - (lg_sl (av.map (xv r0))).length) Slot.unset).toArray = als at hle ⊢
  rw [xent_map] at hle
  exact hbody r0 s.heap [] 0 0 als ⟨hle, hP, hw, fun q hq => hl q.2 (xent_mem av 0 q hq), (fun v hv => absurd hv List.not_mem_nil), va_S.rf, by show 0 + 1 ≤ 1; omega, by show 0 + 6 ≤ 6; omega, fun k i hk => ⟨rfl, hk⟩⟩
end XR
/-- the law's place: 0 and out[0], or 1 -/
theorem MTL_place {l : Launch} {D : DX} {b0 sa i : Nat} {p0 p1 : Int32} {M : XM} {post : XM → Option XV → Prop} (hst : l.stackTraces = false) (h : xMetT l D b0 sa 8 [vR 8 (some i), vI p0, vI p1] M (fun M' v => ∃ x, v = some (vL x) ∧ post (sL M' 6100 0 0 x) (some (vI 0))) (fun M' => post M' (some (vI 1)))) (r0 : Nat → Nat → Nat) :
    Met l yL_place (.codeWith yL_place cL_place 5 (some .int) [(0, 9, 12, 13)] :: wsG) ({ frames := 9, cells := 1, slots := 6, locals := 48 * 9 }) (xPcX D b0 sa r0 [vR 8 (some i), vI p0, vI p1, vR 60 (some 0)] M) (xQc D b0 r0 M post) 1 6 (fun q => b0 ≤ q) := by
  refine va_MetW (cc := cL_place) (maxL := 5) (ret := some .int) (hh := [(0, 9, 12, 13)]) (by decide +kernel) rfl ?_
  intro p e s m args below meth c s₁ B hml hv
  obtain ⟨⟨rfl, hP, hw, hl, hK, hb⟩, hX⟩ := hv
  have hts := atoms_spec (ws := .codeWith yL_place cL_place 5 (some .int) [(0, 9, 12, 13)] :: wsG) B.pre
  generalize hav : [vR 8 (some i), vI p0, vI p1, vR 60 (some 0)] = av at hP hw hl hK hb hX hts B ⊢
  have C : xC p s m (av.map (xv r0)).toArray meth c cL_place 5 RL D b0 := ⟨B.exec, B.bytes, hml, findClass_of_methodNamed B.named, fun w hw => hts w (List.mem_cons_of_mem _ hw), hK, B.notSynchronized, hb⟩
  have hr := B.returns
  have htb : c.exceptionTable.toList = [⟨0, 9, 12, 13⟩] := vx_table (x := yL_place) B (hts _ List.mem_cons_self)
  generalize hR : ({ frames := 9, cells := 1, slots := 6, locals := 48 * 9 } : Room) = R
  have hRf : R.frames = 9 := by rw [← hR]
  have hRl : R.locals = 48 * 9 := by rw [← hR]
  have hRc : R.cells = 1 := by rw [← hR]
  have hRs : R.slots = 6 := by rw [← hR]
  have hQ : MQ below (xQc D b0 r0 M post) (av.map (xv r0)).toArray s 1 6 (fun q => b0 ≤ q) = xEnd D b0 r0 M post below (av.map (xv r0)).toArray s R := by show _ = MQ _ _ _ _ R.cells R.slots _; rw [hRc, hRs]
  have hws : (headSpec (.codeWith yL_place cL_place 5 (some .int) [(0, 9, 12, 13)] :: wsG) R).room = R := rfl
  rw [hws, hQ]
  have hle := lv_entry (av.map (xv r0)) (n := 5) (by rw [xent_len, ← hav]; exact Nat.le_of_ble_eq_true rfl)
  rw [lg_entry_eq]
  generalize (lg_sl (av.map (xv r0)) ++ List.replicate (5 - (lg_sl (av.map (xv r0))).length) Slot.unset).toArray = als at hle ⊢
  rw [xent_map] at hle
  have hgo : xAt p l e R s m (av.map (xv r0)).toArray below meth c (xEnd D b0 r0 M post below (av.map (xv r0)).toArray s R) D b0 5 M r0 0 (xent 0 av) [] M 1 6 := by
    rw [show xent 0 av = [(0, vR 8 (some i)), (1, vI p0), (2, vI p1), (3, vR 60 (some 0))] by rw [← hav]; rfl]
    refine c_aload_n C dL_place_0 rfl (c_iconst (v := 0) C dL_place_1 (by decide) (c_aload_n C dL_place_2 rfl (c_iload_n C dL_place_3 rfl (c_iload_n (K := xAt p l e R s m (av.map (xv r0)).toArray below meth c (xEnd D b0 r0 M post below (av.map (xv r0)).toArray s R) D b0 5 M r0 5) C dL_place_4 rfl c_self)))) _ _ _ _ _ ?_
    show xAt p l e R s m (av.map (xv r0)).toArray below meth c (xEnd D b0 r0 M post below (av.map (xv r0)).toArray s R) D b0 5 M r0 5 [(0, vR 8 (some i)), (1, vI p0), (2, vI p1), (3, vR 60 (some 0))] [vI p1, vI p0, vR 8 (some i), vI 0, vR 60 (some 0)] M 1 6
    intro r H locs cells slots als hS
    obtain ⟨a1, a2, a3, a4, a5, a6, a7, a8, a9⟩ := id hS
    have hlx : gV M 8 i = true := a5 (vR 8 (some i)) (by simp)
    have hM := h r
    have hrun := vx_runV (meth := meth) (H := H) (locs := locs) (cells := cells) (slots := slots) (g := F0 m 5 als [.int p1, .int p0, .ref (r 8 i), .int 0, .ref (r 60 0)]) (As := [.int p0, .int p1]) (rest := [.int 0, .ref (r 60 0)]) (C := RX8) (e := e) (below := below) ⟨C.1, C.2.1, C.2.2.1, C.2.2.2.1, C.2.2.2.2.1⟩ hM ⟨xcallB (n := 2) C (show xWy yX8_place cX8_place 4 (some .long) 2 from ⟨kw_668, kw_1, ⟨by decide +kernel, by decide +kernel⟩, by decide +kernel, by decide⟩) kw_665 (by rw [hRf]; omega) (by rw [hRl]; omega), C.2.2.2.2.1 _ kw_666, C.2.2.2.2.1 _ kw_667⟩
      ⟨xblindX, xrecv hK xcl8 a2 hlx, fun U hU hW => ⟨xpre hK a2 a3 (fun v hv => by simp at hv; rcases hv with rfl | rfl | rfl <;> first | exact hlx | trivial) (Nat.le_trans hb a6.1) rfl U hU hW, hX.moved hW (by rw [hU]; exact a6)⟩⟩ rfl rfl a1.1 rfl (lv_room (Nat.le_of_ble_eq_true rfl)) dL_place_5 ⟨by rw [hRc] at a7 ⊢; omega, by rw [hRs] at a8 ⊢; omega⟩
    intro T hT X
    rcases hrun T hT X with ⟨v, st₀, t, T', L, e0, X', hL, e1, e2, hq, hgo⟩ | ⟨q, st₀, t, T', L, E, ce, e0, X', hL, e1, e2, hx, hce, hcv, hcl, hgo⟩
    · refine xafterT (ls := [(0, vR 8 (some i)), (1, vI p0), (2, vI p1), (3, vR 60 (some 0))]) (st' := [vI 0, vR 60 (some 0)]) (mc := 1) (ms := 6) (a := (Value.ref (r 8 i) :: [Value.int p0, Value.int p1]).toArray) hS (fun v hv => by simp at hv ⊢; rcases hv with rfl | rfl <;> simp) (by omega) (by omega) ⟨v, st₀, t, T', L, e0, X', hL, e1, e2, ?_, hgo⟩
      obtain ⟨M', r', v', q1, ⟨x, rfl, q2⟩, q3, q4, q5, q6, q7⟩ := hq
      refine ⟨M', r', some (vL x), q1, ?_, q3, q4, q5, q6, q7⟩
      refine c_last (k := 60) (n := 1) (f := 6100) C dL_place_8 (by decide) rfl rfl (c_goto (tgt := 16) C dL_place_9 (by decide) (c_iconst (v := 0) C dL_place_16 (by decide) (c_iret C hr dL_place_17))) _ _ _ _ _ ?_
      exact ⟨rfl, by unfold vp_in; decide, 0, rfl, q2⟩
    · obtain ⟨rfl, M', r', q2, q3, q4, q5, q6⟩ := hx
      have hS' : va_S (fun q => b0 ≤ q) s.heap T'.heap (locs ++ L) := by
        obtain ⟨f1, f2⟩ := q6
        rw [e0] at f1 f2
        refine ⟨Nat.le_trans a6.1 (by rw [e1]; exact f1), fun z z1 z2 => ?_, fun z hz => ?_⟩
        · rw [e1, f2 z (Nat.lt_of_lt_of_le z1 a6.1) z2]
          exact a6.2.1 z z1 z2
        · rcases List.mem_append.mp hz with h | h
          · exact a6.2.2 z h
          · exact hL z h
      have hts' := C.2.2.2.2.1
      have hcatch : vx_W p l e R s m (av.map (xv r0)).toArray below meth c T'.heap (locs ++ L) (cells + 1) (slots + 6) (xEnd D b0 r0 M post below (av.map (xv r0)).toArray s R) (F0 m 5 als [.int 0, .ref (r 60 0)]) q := by
        refine vx_catch (own := RL) (name := xIAE) (E := xIAE) (ce := ce) C.2.2.2.1 [] ⟨0, 9, 12, 13⟩ [] htb (fun z hz => absurd hz List.not_mem_nil) (by decide) (by decide) (hts' _ kw_664) (va_Nw.use rfl hX.2.1) (by rw [e1]; exact hce) hcv hcl ?_
        refine lv_astore (nL := 5) (lv := []) (lv' := [(4, .ref q)]) C.1 C.2.1 dL_place_12 ⟨a1.1, a1.2.1, fun z hz => absurd hz List.not_mem_nil⟩ (by decide) rfl (fun ls1 h1 => ?_)
        refine lv_iconst (v := 1) C.1 C.2.1 dL_place_14 (by decide) ?_
        refine W.widen (k := R.cells) (n := R.slots) (by rw [hRc] at a7 ⊢; omega) (by rw [hRs] at a8 ⊢; omega) ?_
        exact W.iret (hlocks := C.2.2.2.2.2.2.1) C.1 C.2.1 hr (fun t2 ht2 hW2 => ⟨M', r', some (vI 1), rfl, q2, by rw [ht2, e1]; exact q3, q4, (fun z hz => by cases hz; trivial), fun k j hk => ⟨((q5 k j (a9 k j hk).2).1).trans (a9 k j hk).1, (q5 k j (a9 k j hk).2).2⟩, hS'.F ht2⟩) hS'.2.2 dL_place_15
      obtain ⟨t2, b1, b2⟩ := hcatch T' rfl X'
      exact ⟨t2, hgo.trans b1, b2⟩
  exact hgo r0 s.heap [] 0 0 als ⟨hle, hP, hw, fun q hq => hl q.2 (xent_mem av 0 q hq), (fun v hv => absurd hv List.not_mem_nil), va_S.rf, by rw [hRc]; omega, by rw [hRs]; omega, fun k i hk => ⟨rfl, hk⟩⟩
