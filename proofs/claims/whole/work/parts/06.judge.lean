/-! The judgement: 'from here the method comes to its end', over the memory; and what a method's contract is. -/
def xTys (D : DX) : List (ClassId × FieldType) := [(D.2 0, .int), (D.2 1, .long), (D.2 2, .double), (D.2 3, .boolean), (D.2 4, .object RX0), (D.2 5, .object RX1), (D.2 6, .object RX2), (D.2 7, .object RX4), (D.2 8, .object RX5)]
/-- the nest mates' links: fields, methods -/
def xNF : List (String × Nat × String × String × String) := [("ContractLoaders", 32, "ContractLoaders$Library", "fileCount", "I"), ("ContractLoaders", 78, "ContractLoaders$Library", "loaderCount", "I"), ("ContractLoaders", 197, "ContractLoaders$Library", "made", "I"), ("ContractLoaders$Machine", 98, "ContractLoaders$Library", "failure", "I"), ("ContractLoaders", 110, "ContractLoaders$Library", "failure", "I"), ("ContractLoaders", 122, "ContractLoaders$Machine", "contractCount", "I"), ("ContractLoaders", 153, "ContractLoaders$Machine", "rows", "LContractLoaders$Rows;"), ("ContractLoaders", 206, "ContractLoaders$Machine", "mostInWork", "I"), ("ContractLoaders", 203, "ContractLoaders$Machine", "begun", "I"), ("ContractLoaders", 200, "ContractLoaders$Machine", "steps", "I"), ("ContractLoaders", 171, "ContractLoaders$Machine", "lastValue", "J")]
def xNM : List (String × Nat × MethodName) := [("ContractLoaders$Machine", 19, ⟨"ContractLoaders$Rows", "<init>", "()V"⟩), ("ContractLoaders", 95, ⟨"ContractLoaders$Library", "found", "(LContractLoaders$Loader;II)LContractLoaders$LoadedClass;"⟩), ("ContractLoaders$Machine", 92, ⟨"ContractLoaders$Library", "found", "(LContractLoaders$Loader;II)LContractLoaders$LoadedClass;"⟩), ("ContractLoaders$Machine", 109, ⟨"ContractLoaders$Frame", "<init>", "()V"⟩), ("ContractLoaders$Frame", 54, ⟨"ContractLoaders$Rows", "<init>", "()V"⟩)]
def xAO : List String := [RX0, RX1, RX2, RX4, RX5]
/-- what is known of the tables -/
def xK (D : DX) (U : State) : Prop := va_K D.1 vwCl (xTys D) U ∧ (∀ q ∈ xNF, va_Nw (.fieldLinkNest q.1 q.2.1 q.2.2.1 q.2.2.2.1 q.2.2.2.2 RX8) U) ∧ (∀ q ∈ xNM, va_Nw (.methodLinkNest q.1 q.2.1 q.2.2 RX8) U) ∧ ∀ C ∈ xAO, va_AO C U
theorem xK.moved {D : DX} {s U : State} (h : xK D s) (hW : s.WarmedH U.vm) : xK D U := ⟨va_K.moved hW.alike h.1, fun q hq => (h.2.1 q hq).warmF hW, fun q hq => (h.2.2.1 q hq).warmM hW, fun C hC => (h.2.2.2 C hC).moved hW.alike⟩
theorem xK.same {D : DX} {s U : State} (h : xK D s) (hv : s.vm = U.vm) : xK D U := ⟨va_K.moved (by rw [hv]; exact Vm.Alike.refl _) h.1, fun q hq => va_Nw.same rfl hv (h.2.1 q hq), fun q hq => va_Nw.same rfl hv (h.2.2.1 q hq), fun C hC => (h.2.2.2 C hC).moved (by rw [hv]; exact Vm.Alike.refl _)⟩
abbrev XK : Type := List (Nat × XV) → List XV → XM → Nat → Nat → Prop
def xPc (D : DX) (b0 : Nat) (r0 : Nat → Nat → Nat) (av : List XV) (M : XM) : Array Value → State → Prop := va_Pc (av.map (xv r0)) (fun U => xP D b0 r0 M U.heap ∧ xwf M ∧ (∀ v ∈ av, xlive M v) ∧ xK D U ∧ b0 ≤ U.heap.size)
def xQc (D : DX) (b0 : Nat) (r0 : Nat → Nat → Nat) (M : XM) (post : XM → Option XV → Prop) : Array Value → State → Outcome → State → Prop := fun _ st o t => ∃ (M' : XM) (r' : Nat → Nat → Nat) (v : Option XV), o = .returned (v.map (xv r')) ∧ post M' v ∧ xP D b0 r' M' t.heap ∧ xwf M' ∧ (∀ z ∈ v, xlive M' z) ∧ (∀ k i, gV M k i = true → r' k i = r0 k i ∧ gV M' k i = true) ∧ va_F (fun q => b0 ≤ q) st t
/-- a method's contract: called with av in the memory M, at depth d, it returns, making at most mc cells of ms slots; 'post' of the memory behind it and its answer -/
def xMet (l : Launch) (D : DX) (b0 : Nat) (d mc ms : Nat) (y : MethodName) (bytes : ByteArray) (maxL : Nat) (ret : Option FieldType) (av : List XV) (M : XM) (post : XM → Option XV → Prop) : Prop :=
  ∀ r0 : Nat → Nat → Nat, Met l y (.code y bytes maxL ret :: wsG) ({ frames := d, cells := mc, slots := ms, locals := 48 * d }) (xPc D b0 r0 av M) (xQc D b0 r0 M post) mc ms (fun q => b0 ≤ q)
def xst1 (ls : List (Nat × XV)) (i : Nat) (v : XV) : List (Nat × XV) := (i, v) :: ls.filter (fun q => !(q.1 == i) && !(q.1 + 1 == i && xcat q.2 == 2))
def xst2 (ls : List (Nat × XV)) (i : Nat) (v : XV) : List (Nat × XV) := (i, v) :: ls.filter (fun q => !(q.1 == i) && (!(q.1 == i + 1) && !(q.1 + 1 == i && xcat q.2 == 2)))
abbrev xvp (r : Nat → Nat → Nat) (q : Nat × XV) : Nat × Value := (q.1, xv r q.2)
theorem xst1_map (r : Nat → Nat → Nat) (ls : List (Nat × XV)) (i : Nat) (v : XV) : (xst1 ls i v).map (xvp r) = (i, xv r v) :: (ls.map (xvp r)).filter (fun q => !(q.1 == i) && !(q.1 + 1 == i && q.2.category == 2)) := by
  unfold xst1
  rw [List.map_cons, List.filter_map]
  congr 2
  apply List.filter_congr
  intro q _
  simp only [Function.comp_apply, xvp, xcat_ok]
theorem xst2_map (r : Nat → Nat → Nat) (ls : List (Nat × XV)) (i : Nat) (v : XV) : (xst2 ls i v).map (xvp r) = (i, xv r v) :: (ls.map (xvp r)).filter (fun q => !(q.1 == i) && (!(q.1 == i + 1) && !(q.1 + 1 == i && q.2.category == 2))) := by
  unfold xst2
  rw [List.map_cons, List.filter_map]
  congr 2
  apply List.filter_congr
  intro q _
  simp only [Function.comp_apply, xvp, xcat_ok]
theorem xlook {ls : List (Nat × XV)} {i : Nat} {v : XV} (h : ls.lookup i = some v) : (i, v) ∈ ls := by
  induction ls with
  | nil => cases h
  | cons q t ih =>
    obtain ⟨a, b⟩ := q
    rw [List.lookup_cons] at h
    by_cases e : (i == a) = true
    · rw [e] at h
      have e2 : i = a := by simpa using e
      cases h
      subst e2
      exact List.mem_cons_self
    · have e3 : (i == a) = false := by simpa using e
      rw [e3] at h
      exact List.mem_cons_of_mem _ (ih h)
/-- where the walk stands: locals, memory, what was written, the room that is left (bc cells, bs slots) -/
def xSt (s : State) (R : Room) (D : DX) (b0 nL : Nat) (M0 : XM) (r0 : Nat → Nat → Nat) (ls : List (Nat × XV)) (st : List XV) (M : XM) (bc bs : Nat) (r : Nat → Nat → Nat) (H : Heap) (locs : List Loc) (cells slots : Nat) (als : Array Slot) : Prop :=
  lv_has als nL (ls.map (xvp r)) ∧ xP D b0 r M H ∧ xwf M ∧ (∀ q ∈ ls, xlive M q.2) ∧ (∀ v ∈ st, xlive M v) ∧ va_S (fun q => b0 ≤ q) s.heap H locs ∧ cells + bc ≤ R.cells ∧ slots + bs ≤ R.slots ∧ ∀ k i, gV M0 k i = true → r k i = r0 k i ∧ gV M k i = true
/-- what doesn't change in a method's walk: the machine, the code, the locals' number, the class, the words, the tables -/
def xC (p : Program) (s : State) (m : MethodId) (args : Array Value) (meth : Method) (c : Code) (cc : ByteArray) (nL : Nat) (own : String) (D : DX) (b0 : Nat) : Prop :=
  p.tables.exec = Jvm.exec ∧ c.code = cc ∧ c.maxLocals = nL ∧ s.vm.findClass own = some m.cls ∧ (∀ w ∈ wsG, w.before args s = true) ∧ xK D s ∧ meth.locks = false ∧ b0 ≤ s.heap.size
section XJ
variable {p : Program} {l : Launch} {e : Env} {R : Room} {s : State} {m : MethodId} {args : Array Value} {below : List Frame} {meth : Method} {c : Code} {Q : State → Prop}
variable {cc : ByteArray} {nL : Nat} {own : String} {D : DX} {b0 : Nat} {M0 : XM} {r0 : Nat → Nat → Nat} {pc : Nat}
def xAt (p : Program) (l : Launch) (e : Env) (R : Room) (s : State) (m : MethodId) (args : Array Value) (below : List Frame) (meth : Method) (c : Code) (Q : State → Prop) (D : DX) (b0 nL : Nat) (M0 : XM) (r0 : Nat → Nat → Nat) (pc : Nat) : XK := fun ls st M bc bs =>
  ∀ (r : Nat → Nat → Nat) (H : Heap) (locs : List Loc) (cells slots : Nat) (als : Array Slot), xSt s R D b0 nL M0 r0 ls st M bc bs r H locs cells slots als → W p l e R s m args below meth c H locs cells slots Q (F0 m pc als (st.map (xv r)))
/-- a step that changes the stack alone -/
theorem xstep {pc' : Nat} {ls : List (Nat × XV)} {st st' : List XV} {M : XM} {bc bs : Nat} (k : xAt p l e R s m args below meth c Q D b0 nL M0 r0 pc' ls st' M bc bs) (hl : (∀ v ∈ st, xlive M v) → (∀ q ∈ ls, xlive M q.2) → ∀ v ∈ st', xlive M v)
    (hw : ∀ (r : Nat → Nat → Nat) (H : Heap) (locs : List Loc) (cells slots : Nat) (als : Array Slot), lv_has als nL (ls.map (xvp r)) → W p l e R s m args below meth c H locs cells slots Q (F0 m pc' als (st'.map (xv r))) → W p l e R s m args below meth c H locs cells slots Q (F0 m pc als (st.map (xv r)))) : xAt p l e R s m args below meth c Q D b0 nL M0 r0 pc ls st M bc bs := by
  intro r H locs cells slots als h
  exact hw r H locs cells slots als h.1 (k r H locs cells slots als ⟨h.1, h.2.1, h.2.2.1, h.2.2.2.1, hl h.2.2.2.2.1 h.2.2.2.1, h.2.2.2.2.2⟩)
theorem xcons {M : XM} {v : XV} {st : List XV} (hv : xlive M v) (h : ∀ z ∈ st, xlive M z) : ∀ z ∈ v :: st, xlive M z := List.forall_mem_cons.mpr ⟨hv, h⟩
theorem xtail {M : XM} {v : XV} {st : List XV} (h : ∀ z ∈ v :: st, xlive M z) : ∀ z ∈ st, xlive M z := (List.forall_mem_cons.mp h).2
theorem xhead {M : XM} {v : XV} {st : List XV} (h : ∀ z ∈ v :: st, xlive M z) : xlive M v := (List.forall_mem_cons.mp h).1
-- constants
def i_ci (v : Int32) (K : XK) : XK := fun ls st M bc bs => K ls (vI v :: st) M bc bs
def i_cl (v : Int64) (K : XK) : XK := fun ls st M bc bs => K ls (vL v :: st) M bc bs
def i_cd (v : UInt64) (K : XK) : XK := fun ls st M bc bs => K ls (vD v :: st) M bc bs
def i_null (k : Nat) (K : XK) : XK := fun ls st M bc bs => K ls (vR k none :: st) M bc bs
theorem s_iconst {n : Int} {v : Int32} (C : xC p s m args meth c cc nL own D b0) (hd : decode cc pc = .ok (.iconst n, 1)) (hv : Int32.ofInt n = v) (ls st M bc bs) (h : i_ci v (xAt p l e R s m args below meth c Q D b0 nL M0 r0 (pc + 1)) ls st M bc bs) : xAt p l e R s m args below meth c Q D b0 nL M0 r0 pc ls st M bc bs := by
  unfold i_ci at h
  exact xstep h (fun h _ => xcons trivial h) (fun _ _ _ _ _ _ _ k => lv_iconst C.1 C.2.1 hd hv k)
theorem s_bipush {n : Int} {v : Int32} (C : xC p s m args meth c cc nL own D b0) (hd : decode cc pc = .ok (.bipush n, 2)) (hv : (Int8.ofInt n).toInt32 = v) (ls st M bc bs) (h : i_ci v (xAt p l e R s m args below meth c Q D b0 nL M0 r0 (pc + 2)) ls st M bc bs) : xAt p l e R s m args below meth c Q D b0 nL M0 r0 pc ls st M bc bs := by
  unfold i_ci at h
  exact xstep h (fun h _ => xcons trivial h) (fun _ _ _ _ _ _ _ k => lv_bipush C.1 C.2.1 hd hv k)
theorem s_sipush {n : Int} {v : Int32} (C : xC p s m args meth c cc nL own D b0) (hd : decode cc pc = .ok (.sipush n, 3)) (hv : (Int16.ofInt n).toInt32 = v) (ls st M bc bs) (h : i_ci v (xAt p l e R s m args below meth c Q D b0 nL M0 r0 (pc + 3)) ls st M bc bs) : xAt p l e R s m args below meth c Q D b0 nL M0 r0 pc ls st M bc bs := by
  unfold i_ci at h
  exact xstep h (fun h _ => xcons trivial h) (fun _ _ _ _ _ _ _ k => lv_sipush C.1 C.2.1 hd hv k)
theorem s_ldc {index : Nat} {v : Int32} (C : xC p s m args meth c cc nL own D b0) (hd : decode cc pc = .ok (.ldc index, 2)) (hw : Cond.constant own index v ∈ wsG) (ls st M bc bs) (h : i_ci v (xAt p l e R s m args below meth c Q D b0 nL M0 r0 (pc + 2)) ls st M bc bs) : xAt p l e R s m args below meth c Q D b0 nL M0 r0 pc ls st M bc bs := by
  unfold i_ci at h
  exact xstep h (fun h _ => xcons trivial h) (fun _ _ _ _ _ _ _ k => lv_ldc C.1 C.2.1 C.2.2.2.1 (C.2.2.2.2.1 _ hw) hd k)
theorem s_lconst {n : Fin 2} {v : Int64} (C : xC p s m args meth c cc nL own D b0) (hd : decode cc pc = .ok (.lconst n, 1)) (hv : Int64.ofNat (n : Nat) = v) (ls st M bc bs) (h : i_cl v (xAt p l e R s m args below meth c Q D b0 nL M0 r0 (pc + 1)) ls st M bc bs) : xAt p l e R s m args below meth c Q D b0 nL M0 r0 pc ls st M bc bs := by
  unfold i_cl at h
  exact xstep h (fun h _ => xcons trivial h) (fun _ _ _ _ _ _ _ k => lv_lconst C.1 C.2.1 hd hv k)
theorem s_ldc2 {index : Nat} {v : Int64} (C : xC p s m args meth c cc nL own D b0) (hd : decode cc pc = .ok (.ldc2_w index, 3)) (hw : Cond.constantLong own index v ∈ wsG) (ls st M bc bs) (h : i_cl v (xAt p l e R s m args below meth c Q D b0 nL M0 r0 (pc + 3)) ls st M bc bs) : xAt p l e R s m args below meth c Q D b0 nL M0 r0 pc ls st M bc bs := by
  unfold i_cl at h
  exact xstep h (fun h _ => xcons trivial h) (fun _ _ _ _ _ _ _ k => lv_ldc2 C.1 C.2.1 C.2.2.2.1 (C.2.2.2.2.1 _ hw) hd k)
theorem s_ldc2d {index : Nat} {v : UInt64} (C : xC p s m args meth c cc nL own D b0) (hd : decode cc pc = .ok (.ldc2_w index, 3)) (hw : Cond.constantDouble own index v ∈ wsG) (ls st M bc bs) (h : i_cd v (xAt p l e R s m args below meth c Q D b0 nL M0 r0 (pc + 3)) ls st M bc bs) : xAt p l e R s m args below meth c Q D b0 nL M0 r0 pc ls st M bc bs := by
  unfold i_cd at h
  exact xstep h (fun h _ => xcons trivial h) (fun _ _ _ _ _ _ _ k => lv_ldc2d C.1 C.2.1 C.2.2.2.1 (C.2.2.2.2.1 _ hw) hd k)
theorem s_null {kd : Nat} (C : xC p s m args meth c cc nL own D b0) (hd : decode cc pc = .ok (.aconst_null, 1)) (ls st M bc bs) (h : i_null kd (xAt p l e R s m args below meth c Q D b0 nL M0 r0 (pc + 1)) ls st M bc bs) : xAt p l e R s m args below meth c Q D b0 nL M0 r0 pc ls st M bc bs := by
  unfold i_null at h
  exact xstep h (fun h _ => xcons trivial h) (fun _ _ _ _ _ _ _ k => lv_null C.1 C.2.1 hd k)
theorem s_dconst0 (C : xC p s m args meth c cc nL own D b0) (hd : decode cc pc = .ok (.dconst 0, 1)) (ls st M bc bs) (h : i_cd FP.dconst0 (xAt p l e R s m args below meth c Q D b0 nL M0 r0 (pc + 1)) ls st M bc bs) : xAt p l e R s m args below meth c Q D b0 nL M0 r0 pc ls st M bc bs := by
  unfold i_cd at h
  exact xstep h (fun h _ => xcons trivial h) (fun _ _ _ _ _ _ _ k => lv_dconst0 C.1 C.2.1 hd k)
def i_iadd (K : XK) : XK := fun ls st M bc bs => match st with
  | .inl y :: .inl x :: st => K ls (vI (x + y) :: st) M bc bs
  | _ => False
theorem s_iadd (C : xC p s m args meth c cc nL own D b0) (hd : decode cc pc = .ok (.iadd, 1)) (ls st M bc bs) (h : i_iadd (xAt p l e R s m args below meth c Q D b0 nL M0 r0 (pc + 1)) ls st M bc bs) : xAt p l e R s m args below meth c Q D b0 nL M0 r0 pc ls st M bc bs := by
  unfold i_iadd at h
  split at h
  · exact xstep h (fun h _ => xcons trivial (xtail (xtail h))) (fun _ _ _ _ _ _ _ k => lv_iadd C.1 C.2.1 hd k)
  · exact h.elim
def i_isub (K : XK) : XK := fun ls st M bc bs => match st with
  | .inl y :: .inl x :: st => K ls (vI (x - y) :: st) M bc bs
  | _ => False
theorem s_isub (C : xC p s m args meth c cc nL own D b0) (hd : decode cc pc = .ok (.isub, 1)) (ls st M bc bs) (h : i_isub (xAt p l e R s m args below meth c Q D b0 nL M0 r0 (pc + 1)) ls st M bc bs) : xAt p l e R s m args below meth c Q D b0 nL M0 r0 pc ls st M bc bs := by
  unfold i_isub at h
  split at h
  · exact xstep h (fun h _ => xcons trivial (xtail (xtail h))) (fun _ _ _ _ _ _ _ k => lv_isub C.1 C.2.1 hd k)
  · exact h.elim
def i_imul (K : XK) : XK := fun ls st M bc bs => match st with
  | .inl y :: .inl x :: st => K ls (vI (x * y) :: st) M bc bs
  | _ => False
theorem s_imul (C : xC p s m args meth c cc nL own D b0) (hd : decode cc pc = .ok (.imul, 1)) (ls st M bc bs) (h : i_imul (xAt p l e R s m args below meth c Q D b0 nL M0 r0 (pc + 1)) ls st M bc bs) : xAt p l e R s m args below meth c Q D b0 nL M0 r0 pc ls st M bc bs := by
  unfold i_imul at h
  split at h
  · exact xstep h (fun h _ => xcons trivial (xtail (xtail h))) (fun _ _ _ _ _ _ _ k => lv_imul C.1 C.2.1 hd k)
  · exact h.elim
def i_iand (K : XK) : XK := fun ls st M bc bs => match st with
  | .inl y :: .inl x :: st => K ls (vI (x &&& y) :: st) M bc bs
  | _ => False
theorem s_iand (C : xC p s m args meth c cc nL own D b0) (hd : decode cc pc = .ok (.iand, 1)) (ls st M bc bs) (h : i_iand (xAt p l e R s m args below meth c Q D b0 nL M0 r0 (pc + 1)) ls st M bc bs) : xAt p l e R s m args below meth c Q D b0 nL M0 r0 pc ls st M bc bs := by
  unfold i_iand at h
  split at h
  · exact xstep h (fun h _ => xcons trivial (xtail (xtail h))) (fun _ _ _ _ _ _ _ k => lv_iand C.1 C.2.1 hd k)
  · exact h.elim
def i_ishr (K : XK) : XK := fun ls st M bc bs => match st with
  | .inl y :: .inl x :: st => K ls (vI (x >>> (y &&& 31)) :: st) M bc bs
  | _ => False
theorem s_ishr (C : xC p s m args meth c cc nL own D b0) (hd : decode cc pc = .ok (.ishr, 1)) (ls st M bc bs) (h : i_ishr (xAt p l e R s m args below meth c Q D b0 nL M0 r0 (pc + 1)) ls st M bc bs) : xAt p l e R s m args below meth c Q D b0 nL M0 r0 pc ls st M bc bs := by
  unfold i_ishr at h
  split at h
  · exact xstep h (fun h _ => xcons trivial (xtail (xtail h))) (fun _ _ _ _ _ _ _ k => lv_ishr C.1 C.2.1 hd k)
  · exact h.elim
def i_idiv (K : XK) : XK := fun ls st M bc bs => match st with
  | .inl y :: .inl x :: st => ¬ y = 0 ∧ K ls (vI (x / y) :: st) M bc bs
  | _ => False
theorem s_idiv (C : xC p s m args meth c cc nL own D b0) (hd : decode cc pc = .ok (.idiv, 1)) (ls st M bc bs) (h : i_idiv (xAt p l e R s m args below meth c Q D b0 nL M0 r0 (pc + 1)) ls st M bc bs) : xAt p l e R s m args below meth c Q D b0 nL M0 r0 pc ls st M bc bs := by
  unfold i_idiv at h
  split at h
  · exact xstep h.2 (fun h _ => xcons trivial (xtail (xtail h))) (fun _ _ _ _ _ _ _ k => lv_idiv C.1 C.2.1 hd h.1 k)
  · exact h.elim
def i_irem (K : XK) : XK := fun ls st M bc bs => match st with
  | .inl y :: .inl x :: st => ¬ y = 0 ∧ K ls (vI (x - x / y * y) :: st) M bc bs
  | _ => False
theorem s_irem (C : xC p s m args meth c cc nL own D b0) (hd : decode cc pc = .ok (.irem, 1)) (ls st M bc bs) (h : i_irem (xAt p l e R s m args below meth c Q D b0 nL M0 r0 (pc + 1)) ls st M bc bs) : xAt p l e R s m args below meth c Q D b0 nL M0 r0 pc ls st M bc bs := by
  unfold i_irem at h
  split at h
  · exact xstep h.2 (fun h _ => xcons trivial (xtail (xtail h))) (fun _ _ _ _ _ _ _ k => lv_irem C.1 C.2.1 hd h.1 k)
  · exact h.elim
def i_ineg (K : XK) : XK := fun ls st M bc bs => match st with
  | .inl x :: st => K ls (vI (-x) :: st) M bc bs
  | _ => False
theorem s_ineg (C : xC p s m args meth c cc nL own D b0) (hd : decode cc pc = .ok (.ineg, 1)) (ls st M bc bs) (h : i_ineg (xAt p l e R s m args below meth c Q D b0 nL M0 r0 (pc + 1)) ls st M bc bs) : xAt p l e R s m args below meth c Q D b0 nL M0 r0 pc ls st M bc bs := by
  unfold i_ineg at h
  split at h
  · exact xstep h (fun h _ => xcons trivial (xtail h)) (fun _ _ _ _ _ _ _ k => lv_ineg C.1 C.2.1 hd k)
  · exact h.elim
def i_ladd (K : XK) : XK := fun ls st M bc bs => match st with
  | .inr (.inl y) :: .inr (.inl x) :: st => K ls (vL (x + y) :: st) M bc bs
  | _ => False
theorem s_ladd (C : xC p s m args meth c cc nL own D b0) (hd : decode cc pc = .ok (.ladd, 1)) (ls st M bc bs) (h : i_ladd (xAt p l e R s m args below meth c Q D b0 nL M0 r0 (pc + 1)) ls st M bc bs) : xAt p l e R s m args below meth c Q D b0 nL M0 r0 pc ls st M bc bs := by
  unfold i_ladd at h
  split at h
  · exact xstep h (fun h _ => xcons trivial (xtail (xtail h))) (fun _ _ _ _ _ _ _ k => lv_ladd C.1 C.2.1 hd k)
  · exact h.elim
def i_lsub (K : XK) : XK := fun ls st M bc bs => match st with
  | .inr (.inl y) :: .inr (.inl x) :: st => K ls (vL (x - y) :: st) M bc bs
  | _ => False
theorem s_lsub (C : xC p s m args meth c cc nL own D b0) (hd : decode cc pc = .ok (.lsub, 1)) (ls st M bc bs) (h : i_lsub (xAt p l e R s m args below meth c Q D b0 nL M0 r0 (pc + 1)) ls st M bc bs) : xAt p l e R s m args below meth c Q D b0 nL M0 r0 pc ls st M bc bs := by
  unfold i_lsub at h
  split at h
  · exact xstep h (fun h _ => xcons trivial (xtail (xtail h))) (fun _ _ _ _ _ _ _ k => lv_lsub C.1 C.2.1 hd k)
  · exact h.elim
def i_lor (K : XK) : XK := fun ls st M bc bs => match st with
  | .inr (.inl y) :: .inr (.inl x) :: st => K ls (vL (x ||| y) :: st) M bc bs
  | _ => False
theorem s_lor (C : xC p s m args meth c cc nL own D b0) (hd : decode cc pc = .ok (.lor, 1)) (ls st M bc bs) (h : i_lor (xAt p l e R s m args below meth c Q D b0 nL M0 r0 (pc + 1)) ls st M bc bs) : xAt p l e R s m args below meth c Q D b0 nL M0 r0 pc ls st M bc bs := by
  unfold i_lor at h
  split at h
  · exact xstep h (fun h _ => xcons trivial (xtail (xtail h))) (fun _ _ _ _ _ _ _ k => lv_lor C.1 C.2.1 hd k)
  · exact h.elim
def i_land (K : XK) : XK := fun ls st M bc bs => match st with
  | .inr (.inl y) :: .inr (.inl x) :: st => K ls (vL (x &&& y) :: st) M bc bs
  | _ => False
theorem s_land (C : xC p s m args meth c cc nL own D b0) (hd : decode cc pc = .ok (.land, 1)) (ls st M bc bs) (h : i_land (xAt p l e R s m args below meth c Q D b0 nL M0 r0 (pc + 1)) ls st M bc bs) : xAt p l e R s m args below meth c Q D b0 nL M0 r0 pc ls st M bc bs := by
  unfold i_land at h
  split at h
  · exact xstep h (fun h _ => xcons trivial (xtail (xtail h))) (fun _ _ _ _ _ _ _ k => lv_land C.1 C.2.1 hd k)
  · exact h.elim
def i_ldiv (K : XK) : XK := fun ls st M bc bs => match st with
  | .inr (.inl y) :: .inr (.inl x) :: st => ¬ y = 0 ∧ K ls (vL (x / y) :: st) M bc bs
  | _ => False
theorem s_ldiv (C : xC p s m args meth c cc nL own D b0) (hd : decode cc pc = .ok (.ldiv, 1)) (ls st M bc bs) (h : i_ldiv (xAt p l e R s m args below meth c Q D b0 nL M0 r0 (pc + 1)) ls st M bc bs) : xAt p l e R s m args below meth c Q D b0 nL M0 r0 pc ls st M bc bs := by
  unfold i_ldiv at h
  split at h
  · exact xstep h.2 (fun h _ => xcons trivial (xtail (xtail h))) (fun _ _ _ _ _ _ _ k => lv_ldiv C.1 C.2.1 hd h.1 k)
  · exact h.elim
def i_lshl (K : XK) : XK := fun ls st M bc bs => match st with
  | .inl y :: .inr (.inl x) :: st => K ls (vL (x <<< (y.toInt64 &&& 63)) :: st) M bc bs
  | _ => False
theorem s_lshl (C : xC p s m args meth c cc nL own D b0) (hd : decode cc pc = .ok (.lshl, 1)) (ls st M bc bs) (h : i_lshl (xAt p l e R s m args below meth c Q D b0 nL M0 r0 (pc + 1)) ls st M bc bs) : xAt p l e R s m args below meth c Q D b0 nL M0 r0 pc ls st M bc bs := by
  unfold i_lshl at h
  split at h
  · exact xstep h (fun h _ => xcons trivial (xtail (xtail h))) (fun _ _ _ _ _ _ _ k => lv_lshl C.1 C.2.1 hd rfl k)
  · exact h.elim
def i_lshr (K : XK) : XK := fun ls st M bc bs => match st with
  | .inl y :: .inr (.inl x) :: st => K ls (vL (x >>> (y.toInt64 &&& 63)) :: st) M bc bs
  | _ => False
theorem s_lshr (C : xC p s m args meth c cc nL own D b0) (hd : decode cc pc = .ok (.lshr, 1)) (ls st M bc bs) (h : i_lshr (xAt p l e R s m args below meth c Q D b0 nL M0 r0 (pc + 1)) ls st M bc bs) : xAt p l e R s m args below meth c Q D b0 nL M0 r0 pc ls st M bc bs := by
  unfold i_lshr at h
  split at h
  · exact xstep h (fun h _ => xcons trivial (xtail (xtail h))) (fun _ _ _ _ _ _ _ k => lv_lshr C.1 C.2.1 hd rfl k)
  · exact h.elim
def i_i2l (K : XK) : XK := fun ls st M bc bs => match st with
  | .inl x :: st => K ls (vL (x.toInt64) :: st) M bc bs
  | _ => False
theorem s_i2l (C : xC p s m args meth c cc nL own D b0) (hd : decode cc pc = .ok (.i2l, 1)) (ls st M bc bs) (h : i_i2l (xAt p l e R s m args below meth c Q D b0 nL M0 r0 (pc + 1)) ls st M bc bs) : xAt p l e R s m args below meth c Q D b0 nL M0 r0 pc ls st M bc bs := by
  unfold i_i2l at h
  split at h
  · exact xstep h (fun h _ => xcons trivial (xtail h)) (fun _ _ _ _ _ _ _ k => lv_i2l C.1 C.2.1 hd rfl k)
  · exact h.elim
def i_l2i (K : XK) : XK := fun ls st M bc bs => match st with
  | .inr (.inl x) :: st => K ls (vI (x.toInt32) :: st) M bc bs
  | _ => False
theorem s_l2i (C : xC p s m args meth c cc nL own D b0) (hd : decode cc pc = .ok (.l2i, 1)) (ls st M bc bs) (h : i_l2i (xAt p l e R s m args below meth c Q D b0 nL M0 r0 (pc + 1)) ls st M bc bs) : xAt p l e R s m args below meth c Q D b0 nL M0 r0 pc ls st M bc bs := by
  unfold i_l2i at h
  split at h
  · exact xstep h (fun h _ => xcons trivial (xtail h)) (fun _ _ _ _ _ _ _ k => lv_l2i C.1 C.2.1 hd rfl k)
  · exact h.elim
def i_i2b (K : XK) : XK := fun ls st M bc bs => match st with
  | .inl x :: st => K ls (vI (x.toInt8.toInt32) :: st) M bc bs
  | _ => False
theorem s_i2b (C : xC p s m args meth c cc nL own D b0) (hd : decode cc pc = .ok (.i2b, 1)) (ls st M bc bs) (h : i_i2b (xAt p l e R s m args below meth c Q D b0 nL M0 r0 (pc + 1)) ls st M bc bs) : xAt p l e R s m args below meth c Q D b0 nL M0 r0 pc ls st M bc bs := by
  unfold i_i2b at h
  split at h
  · exact xstep h (fun h _ => xcons trivial (xtail h)) (fun _ _ _ _ _ _ _ k => lv_i2b C.1 C.2.1 hd rfl k)
  · exact h.elim
def i_i2d (K : XK) : XK := fun ls st M bc bs => match st with
  | .inl x :: st => K ls (vD (FP.i2d x) :: st) M bc bs
  | _ => False
theorem s_i2d (C : xC p s m args meth c cc nL own D b0) (hd : decode cc pc = .ok (.i2d, 1)) (ls st M bc bs) (h : i_i2d (xAt p l e R s m args below meth c Q D b0 nL M0 r0 (pc + 1)) ls st M bc bs) : xAt p l e R s m args below meth c Q D b0 nL M0 r0 pc ls st M bc bs := by
  unfold i_i2d at h
  split at h
  · exact xstep h (fun h _ => xcons trivial (xtail h)) (fun _ _ _ _ _ _ _ k => lv_i2d C.1 C.2.1 hd k)
  · exact h.elim
def i_l2d (K : XK) : XK := fun ls st M bc bs => match st with
  | .inr (.inl x) :: st => K ls (vD (FP.l2d x) :: st) M bc bs
  | _ => False
theorem s_l2d (C : xC p s m args meth c cc nL own D b0) (hd : decode cc pc = .ok (.l2d, 1)) (ls st M bc bs) (h : i_l2d (xAt p l e R s m args below meth c Q D b0 nL M0 r0 (pc + 1)) ls st M bc bs) : xAt p l e R s m args below meth c Q D b0 nL M0 r0 pc ls st M bc bs := by
  unfold i_l2d at h
  split at h
  · exact xstep h (fun h _ => xcons trivial (xtail h)) (fun _ _ _ _ _ _ _ k => lv_l2d C.1 C.2.1 hd k)
  · exact h.elim
def i_d2l (K : XK) : XK := fun ls st M bc bs => match st with
  | .inr (.inr (.inl x)) :: st => K ls (vL (FP.d2l x) :: st) M bc bs
  | _ => False
theorem s_d2l (C : xC p s m args meth c cc nL own D b0) (hd : decode cc pc = .ok (.d2l, 1)) (ls st M bc bs) (h : i_d2l (xAt p l e R s m args below meth c Q D b0 nL M0 r0 (pc + 1)) ls st M bc bs) : xAt p l e R s m args below meth c Q D b0 nL M0 r0 pc ls st M bc bs := by
  unfold i_d2l at h
  split at h
  · exact xstep h (fun h _ => xcons trivial (xtail h)) (fun _ _ _ _ _ _ _ k => lv_d2l C.1 C.2.1 hd k)
  · exact h.elim
def i_dneg (K : XK) : XK := fun ls st M bc bs => match st with
  | .inr (.inr (.inl x)) :: st => K ls (vD (FP.dneg x) :: st) M bc bs
  | _ => False
theorem s_dneg (C : xC p s m args meth c cc nL own D b0) (hd : decode cc pc = .ok (.dneg, 1)) (ls st M bc bs) (h : i_dneg (xAt p l e R s m args below meth c Q D b0 nL M0 r0 (pc + 1)) ls st M bc bs) : xAt p l e R s m args below meth c Q D b0 nL M0 r0 pc ls st M bc bs := by
  unfold i_dneg at h
  split at h
  · exact xstep h (fun h _ => xcons trivial (xtail h)) (fun _ _ _ _ _ _ _ k => lv_dneg C.1 C.2.1 hd k)
  · exact h.elim
def i_dadd (K : XK) : XK := fun ls st M bc bs => match st with
  | .inr (.inr (.inl y)) :: .inr (.inr (.inl x)) :: st => vf_n64 (FP.dadd x y) ∧ K ls (vD (FP.dadd x y) :: st) M bc bs
  | _ => False
theorem s_dadd (C : xC p s m args meth c cc nL own D b0) (hd : decode cc pc = .ok (.dadd, 1)) (ls st M bc bs) (h : i_dadd (xAt p l e R s m args below meth c Q D b0 nL M0 r0 (pc + 1)) ls st M bc bs) : xAt p l e R s m args below meth c Q D b0 nL M0 r0 pc ls st M bc bs := by
  unfold i_dadd at h
  split at h
  · exact xstep h.2 (fun h _ => xcons trivial (xtail (xtail h))) (fun _ _ _ _ _ _ _ k => lv_dadd C.1 C.2.1 hd h.1 k)
  · exact h.elim
def i_dmul (K : XK) : XK := fun ls st M bc bs => match st with
  | .inr (.inr (.inl y)) :: .inr (.inr (.inl x)) :: st => vf_n64 (FP.dmul x y) ∧ K ls (vD (FP.dmul x y) :: st) M bc bs
  | _ => False
theorem s_dmul (C : xC p s m args meth c cc nL own D b0) (hd : decode cc pc = .ok (.dmul, 1)) (ls st M bc bs) (h : i_dmul (xAt p l e R s m args below meth c Q D b0 nL M0 r0 (pc + 1)) ls st M bc bs) : xAt p l e R s m args below meth c Q D b0 nL M0 r0 pc ls st M bc bs := by
  unfold i_dmul at h
  split at h
  · exact xstep h.2 (fun h _ => xcons trivial (xtail (xtail h))) (fun _ _ _ _ _ _ _ k => lv_dmul C.1 C.2.1 hd h.1 k)
  · exact h.elim
def i_ddiv (K : XK) : XK := fun ls st M bc bs => match st with
  | .inr (.inr (.inl y)) :: .inr (.inr (.inl x)) :: st => vf_n64 (FP.ddiv x y) ∧ K ls (vD (FP.ddiv x y) :: st) M bc bs
  | _ => False
theorem s_ddiv (C : xC p s m args meth c cc nL own D b0) (hd : decode cc pc = .ok (.ddiv, 1)) (ls st M bc bs) (h : i_ddiv (xAt p l e R s m args below meth c Q D b0 nL M0 r0 (pc + 1)) ls st M bc bs) : xAt p l e R s m args below meth c Q D b0 nL M0 r0 pc ls st M bc bs := by
  unfold i_ddiv at h
  split at h
  · exact xstep h.2 (fun h _ => xcons trivial (xtail (xtail h))) (fun _ _ _ _ _ _ _ k => lv_ddiv C.1 C.2.1 hd h.1 k)
  · exact h.elim
def i_lcmp (K : XK) : XK := fun ls st M bc bs => match st with
  | .inr (.inl y) :: .inr (.inl x) :: st => K ls (vI (lg_cmp x y) :: st) M bc bs
  | _ => False
theorem s_lcmp (C : xC p s m args meth c cc nL own D b0) (hd : decode cc pc = .ok (.lcmp, 1)) (ls st M bc bs) (h : i_lcmp (xAt p l e R s m args below meth c Q D b0 nL M0 r0 (pc + 1)) ls st M bc bs) : xAt p l e R s m args below meth c Q D b0 nL M0 r0 pc ls st M bc bs := by
  unfold i_lcmp at h
  split at h
  · exact xstep h (fun h _ => xcons trivial (xtail (xtail h))) (fun _ _ _ _ _ _ _ k => W.lcmp C.1 C.2.1 hd k)
  · exact h.elim
def i_dcmpl (K : XK) : XK := fun ls st M bc bs => match st with
  | .inr (.inr (.inl y)) :: .inr (.inr (.inl x)) :: st => K ls (vI (Op.cmpValue (FP.dcmp x y) .l) :: st) M bc bs
  | _ => False
theorem s_dcmpl (C : xC p s m args meth c cc nL own D b0) (hd : decode cc pc = .ok (.dcmp .l, 1)) (ls st M bc bs) (h : i_dcmpl (xAt p l e R s m args below meth c Q D b0 nL M0 r0 (pc + 1)) ls st M bc bs) : xAt p l e R s m args below meth c Q D b0 nL M0 r0 pc ls st M bc bs := by
  unfold i_dcmpl at h
  split at h
  · exact xstep h (fun h _ => xcons trivial (xtail (xtail h))) (fun _ _ _ _ _ _ _ k => lv_dcmp C.1 C.2.1 hd k)
  · exact h.elim
def i_dcmpg (K : XK) : XK := fun ls st M bc bs => match st with
  | .inr (.inr (.inl y)) :: .inr (.inr (.inl x)) :: st => K ls (vI (Op.cmpValue (FP.dcmp x y) .g) :: st) M bc bs
  | _ => False
theorem s_dcmpg (C : xC p s m args meth c cc nL own D b0) (hd : decode cc pc = .ok (.dcmp .g, 1)) (ls st M bc bs) (h : i_dcmpg (xAt p l e R s m args below meth c Q D b0 nL M0 r0 (pc + 1)) ls st M bc bs) : xAt p l e R s m args below meth c Q D b0 nL M0 r0 pc ls st M bc bs := by
  unfold i_dcmpg at h
  split at h
  · exact xstep h (fun h _ => xcons trivial (xtail (xtail h))) (fun _ _ _ _ _ _ _ k => lv_dcmp C.1 C.2.1 hd k)
  · exact h.elim
def i_dup (K : XK) : XK := fun ls st M bc bs => match st with
  | v :: st => xcat v = 1 ∧ K ls (v :: v :: st) M bc bs
  | _ => False
theorem s_dup (C : xC p s m args meth c cc nL own D b0) (hd : decode cc pc = .ok (.dup, 1)) (ls st M bc bs) (h : i_dup (xAt p l e R s m args below meth c Q D b0 nL M0 r0 (pc + 1)) ls st M bc bs) : xAt p l e R s m args below meth c Q D b0 nL M0 r0 pc ls st M bc bs := by
  unfold i_dup at h
  split at h
  · exact xstep h.2 (fun h _ => xcons (xhead h) h) (fun _ _ _ _ _ _ _ k => lv_dup C.1 C.2.1 hd ((xcat_ok _ _).trans h.1) k)
  · exact h.elim
def i_dup2 (K : XK) : XK := fun ls st M bc bs => match st with
  | v :: w :: st => xcat v = 1 ∧ xcat w = 1 ∧ K ls (v :: w :: v :: w :: st) M bc bs
  | _ => False
theorem s_dup2 (C : xC p s m args meth c cc nL own D b0) (hd : decode cc pc = .ok (.dup2, 1)) (ls st M bc bs) (h : i_dup2 (xAt p l e R s m args below meth c Q D b0 nL M0 r0 (pc + 1)) ls st M bc bs) : xAt p l e R s m args below meth c Q D b0 nL M0 r0 pc ls st M bc bs := by
  unfold i_dup2 at h
  split at h
  · exact xstep h.2.2 (fun h _ => xcons (xhead h) (xcons (xhead (xtail h)) h)) (fun _ _ _ _ _ _ _ k => lv_dup2_11 C.1 C.2.1 hd ((xcat_ok _ _).trans h.1) ((xcat_ok _ _).trans h.2.1) k)
  · exact h.elim
def i_pop (K : XK) : XK := fun ls st M bc bs => match st with
  | v :: st => xcat v = 1 ∧ K ls st M bc bs
  | _ => False
theorem s_pop (C : xC p s m args meth c cc nL own D b0) (hd : decode cc pc = .ok (.pop, 1)) (ls st M bc bs) (h : i_pop (xAt p l e R s m args below meth c Q D b0 nL M0 r0 (pc + 1)) ls st M bc bs) : xAt p l e R s m args below meth c Q D b0 nL M0 r0 pc ls st M bc bs := by
  unfold i_pop at h
  split at h
  · exact xstep h.2 (fun h _ => xtail h) (fun _ _ _ _ _ _ _ k => lv_pop C.1 C.2.1 hd ((xcat_ok _ _).trans h.1) k)
  · exact h.elim
theorem xlv {als : Array Slot} {r : Nat → Nat → Nat} {ls : List (Nat × XV)} {i : Nat} {v : XV} (hl : lv_has als nL (ls.map (xvp r))) (h : ls.lookup i = some v) : als[i]? = some (.val (xv r v)) := hl.2.2 (i, xv r v) (List.mem_map.mpr ⟨(i, v), xlook h, rfl⟩)
def i_ild (i : Nat) (K : XK) : XK := fun ls st M bc bs => match ls.lookup i with
  | some (.inl x) => K ls (vI (x) :: st) M bc bs
  | _ => False
theorem s_iload_n {k : Fin 4} {i : Nat} (C : xC p s m args meth c cc nL own D b0) (hd : decode cc pc = .ok (.iload_n k, 1)) (hi : (k : Nat) = i) (ls st M bc bs) (h : i_ild i (xAt p l e R s m args below meth c Q D b0 nL M0 r0 (pc + 1)) ls st M bc bs) : xAt p l e R s m args below meth c Q D b0 nL M0 r0 pc ls st M bc bs := by
  unfold i_ild at h
  split at h
  · next hq => exact xstep h (fun h _ => xcons trivial h) (fun _ _ _ _ _ _ hl k => lv_iload_n C.1 C.2.1 hd hi (xlv hl hq) k)
  · exact h.elim
theorem s_iload {i : Nat} (C : xC p s m args meth c cc nL own D b0) (hd : decode cc pc = .ok (.iload i, 2)) (ls st M bc bs) (h : i_ild i (xAt p l e R s m args below meth c Q D b0 nL M0 r0 (pc + 2)) ls st M bc bs) : xAt p l e R s m args below meth c Q D b0 nL M0 r0 pc ls st M bc bs := by
  unfold i_ild at h
  split at h
  · next hq => exact xstep h (fun h _ => xcons trivial h) (fun _ _ _ _ _ _ hl k => lv_iload C.1 C.2.1 hd (xlv hl hq) k)
  · exact h.elim
def i_lld (i : Nat) (K : XK) : XK := fun ls st M bc bs => match ls.lookup i with
  | some (.inr (.inl x)) => K ls (vL (x) :: st) M bc bs
  | _ => False
theorem s_lload_n {k : Fin 4} {i : Nat} (C : xC p s m args meth c cc nL own D b0) (hd : decode cc pc = .ok (.lload_n k, 1)) (hi : (k : Nat) = i) (ls st M bc bs) (h : i_lld i (xAt p l e R s m args below meth c Q D b0 nL M0 r0 (pc + 1)) ls st M bc bs) : xAt p l e R s m args below meth c Q D b0 nL M0 r0 pc ls st M bc bs := by
  unfold i_lld at h
  split at h
  · next hq => exact xstep h (fun h _ => xcons trivial h) (fun _ _ _ _ _ _ hl k => lv_lload_n C.1 C.2.1 hd hi (xlv hl hq) k)
  · exact h.elim
theorem s_lload {i : Nat} (C : xC p s m args meth c cc nL own D b0) (hd : decode cc pc = .ok (.lload i, 2)) (ls st M bc bs) (h : i_lld i (xAt p l e R s m args below meth c Q D b0 nL M0 r0 (pc + 2)) ls st M bc bs) : xAt p l e R s m args below meth c Q D b0 nL M0 r0 pc ls st M bc bs := by
  unfold i_lld at h
  split at h
  · next hq => exact xstep h (fun h _ => xcons trivial h) (fun _ _ _ _ _ _ hl k => lv_lload C.1 C.2.1 hd (xlv hl hq) k)
  · exact h.elim
def i_dld (i : Nat) (K : XK) : XK := fun ls st M bc bs => match ls.lookup i with
  | some (.inr (.inr (.inl x))) => K ls (vD (x) :: st) M bc bs
  | _ => False
theorem s_dload_n {k : Fin 4} {i : Nat} (C : xC p s m args meth c cc nL own D b0) (hd : decode cc pc = .ok (.dload_n k, 1)) (hi : (k : Nat) = i) (ls st M bc bs) (h : i_dld i (xAt p l e R s m args below meth c Q D b0 nL M0 r0 (pc + 1)) ls st M bc bs) : xAt p l e R s m args below meth c Q D b0 nL M0 r0 pc ls st M bc bs := by
  unfold i_dld at h
  split at h
  · next hq => exact xstep h (fun h _ => xcons trivial h) (fun _ _ _ _ _ _ hl k => lv_dload_n C.1 C.2.1 hd hi (xlv hl hq) k)
  · exact h.elim
theorem s_dload {i : Nat} (C : xC p s m args meth c cc nL own D b0) (hd : decode cc pc = .ok (.dload i, 2)) (ls st M bc bs) (h : i_dld i (xAt p l e R s m args below meth c Q D b0 nL M0 r0 (pc + 2)) ls st M bc bs) : xAt p l e R s m args below meth c Q D b0 nL M0 r0 pc ls st M bc bs := by
  unfold i_dld at h
  split at h
  · next hq => exact xstep h (fun h _ => xcons trivial h) (fun _ _ _ _ _ _ hl k => lv_dload C.1 C.2.1 hd (xlv hl hq) k)
  · exact h.elim
def i_ald (i : Nat) (K : XK) : XK := fun ls st M bc bs => match ls.lookup i with
  | some (.inr (.inr (.inr (k, o)))) => K ls (vR k o :: st) M bc bs
  | _ => False
theorem s_aload_n {k : Fin 4} {i : Nat} (C : xC p s m args meth c cc nL own D b0) (hd : decode cc pc = .ok (.aload_n k, 1)) (hi : (k : Nat) = i) (ls st M bc bs) (h : i_ald i (xAt p l e R s m args below meth c Q D b0 nL M0 r0 (pc + 1)) ls st M bc bs) : xAt p l e R s m args below meth c Q D b0 nL M0 r0 pc ls st M bc bs := by
  unfold i_ald at h
  split at h
  · next k0 o hq =>
    refine xstep h (fun h1 h2 => xcons (h2 _ (xlook hq)) h1) (fun r _ _ _ _ _ hl k => ?_)
    cases o with
    | none => exact lv_aload_nN C.1 C.2.1 hd hi (xlv hl hq) k
    | some j => exact lv_aload_n C.1 C.2.1 hd hi (xlv hl hq) k
  · exact h.elim
theorem s_aload {i : Nat} (C : xC p s m args meth c cc nL own D b0) (hd : decode cc pc = .ok (.aload i, 2)) (ls st M bc bs) (h : i_ald i (xAt p l e R s m args below meth c Q D b0 nL M0 r0 (pc + 2)) ls st M bc bs) : xAt p l e R s m args below meth c Q D b0 nL M0 r0 pc ls st M bc bs := by
  unfold i_ald at h
  split at h
  · next k0 o hq =>
    refine xstep h (fun h1 h2 => xcons (h2 _ (xlook hq)) h1) (fun r _ _ _ _ _ hl k => ?_)
    cases o with
    | none => exact lv_aloadN C.1 C.2.1 hd (xlv hl hq) k
    | some j => exact lv_aload C.1 C.2.1 hd (xlv hl hq) k
  · exact h.elim
theorem xls1 {M : XM} {ls : List (Nat × XV)} {i : Nat} {v : XV} (h : ∀ q ∈ ls, xlive M q.2) (hv : xlive M v) : ∀ q ∈ xst1 ls i v, xlive M q.2 := by
  intro q hq
  rcases List.mem_cons.mp hq with rfl | hq
  · exact hv
  · exact h q (List.mem_filter.mp hq).1
theorem xls2 {M : XM} {ls : List (Nat × XV)} {i : Nat} {v : XV} (h : ∀ q ∈ ls, xlive M q.2) (hv : xlive M v) : ∀ q ∈ xst2 ls i v, xlive M q.2 := by
  intro q hq
  rcases List.mem_cons.mp hq with rfl | hq
  · exact hv
  · exact h q (List.mem_filter.mp hq).1
def i_ist (i : Nat) (K : XK) : XK := fun ls st M bc bs => match st with
  | .inl x :: st => K (xst1 ls i (vI (x))) st M bc bs
  | _ => False
theorem s_istore_n {k : Fin 4} {i : Nat} (C : xC p s m args meth c cc nL own D b0) (hd : decode cc pc = .ok (.istore_n k, 1)) (hi : (k : Nat) = i) (hn : i < nL) (ls st M bc bs) (h : i_ist i (xAt p l e R s m args below meth c Q D b0 nL M0 r0 (pc + 1)) ls st M bc bs) : xAt p l e R s m args below meth c Q D b0 nL M0 r0 pc ls st M bc bs := by
  unfold i_ist at h
  split at h
  · next x0 st0 =>
    intro r H locs cells slots als hS
    exact lv_istore_n C.1 C.2.1 hd hi hS.1 hn (xst1_map r ls i (vI (x0))).symm (fun ls1 h1 => h r H locs cells slots ls1 ⟨h1, hS.2.1, hS.2.2.1, xls1 hS.2.2.2.1 trivial, xtail hS.2.2.2.2.1, hS.2.2.2.2.2⟩)
  · exact h.elim
theorem s_istore {i : Nat} (C : xC p s m args meth c cc nL own D b0) (hd : decode cc pc = .ok (.istore i, 2)) (hn : i < nL) (ls st M bc bs) (h : i_ist i (xAt p l e R s m args below meth c Q D b0 nL M0 r0 (pc + 2)) ls st M bc bs) : xAt p l e R s m args below meth c Q D b0 nL M0 r0 pc ls st M bc bs := by
  unfold i_ist at h
  split at h
  · next x0 st0 =>
    intro r H locs cells slots als hS
    exact lv_istore C.1 C.2.1 hd hS.1 hn (xst1_map r ls i (vI (x0))).symm (fun ls1 h1 => h r H locs cells slots ls1 ⟨h1, hS.2.1, hS.2.2.1, xls1 hS.2.2.2.1 trivial, xtail hS.2.2.2.2.1, hS.2.2.2.2.2⟩)
  · exact h.elim
def i_lst (i : Nat) (K : XK) : XK := fun ls st M bc bs => match st with
  | .inr (.inl x) :: st => K (xst2 ls i (vL (x))) st M bc bs
  | _ => False
theorem s_lstore_n {k : Fin 4} {i : Nat} (C : xC p s m args meth c cc nL own D b0) (hd : decode cc pc = .ok (.lstore_n k, 1)) (hi : (k : Nat) = i) (hn : i + 1 < nL) (ls st M bc bs) (h : i_lst i (xAt p l e R s m args below meth c Q D b0 nL M0 r0 (pc + 1)) ls st M bc bs) : xAt p l e R s m args below meth c Q D b0 nL M0 r0 pc ls st M bc bs := by
  unfold i_lst at h
  split at h
  · next x0 st0 =>
    intro r H locs cells slots als hS
    exact lv_lstore_n C.1 C.2.1 hd hi hS.1 hn (xst2_map r ls i (vL (x0))).symm (fun ls1 h1 => h r H locs cells slots ls1 ⟨h1, hS.2.1, hS.2.2.1, xls2 hS.2.2.2.1 trivial, xtail hS.2.2.2.2.1, hS.2.2.2.2.2⟩)
  · exact h.elim
theorem s_lstore {i : Nat} (C : xC p s m args meth c cc nL own D b0) (hd : decode cc pc = .ok (.lstore i, 2)) (hn : i + 1 < nL) (ls st M bc bs) (h : i_lst i (xAt p l e R s m args below meth c Q D b0 nL M0 r0 (pc + 2)) ls st M bc bs) : xAt p l e R s m args below meth c Q D b0 nL M0 r0 pc ls st M bc bs := by
  unfold i_lst at h
  split at h
  · next x0 st0 =>
    intro r H locs cells slots als hS
    exact lv_lstore C.1 C.2.1 hd hS.1 hn (xst2_map r ls i (vL (x0))).symm (fun ls1 h1 => h r H locs cells slots ls1 ⟨h1, hS.2.1, hS.2.2.1, xls2 hS.2.2.2.1 trivial, xtail hS.2.2.2.2.1, hS.2.2.2.2.2⟩)
  · exact h.elim
def i_dst (i : Nat) (K : XK) : XK := fun ls st M bc bs => match st with
  | .inr (.inr (.inl x)) :: st => K (xst2 ls i (vD (x))) st M bc bs
  | _ => False
theorem s_dstore_n {k : Fin 4} {i : Nat} (C : xC p s m args meth c cc nL own D b0) (hd : decode cc pc = .ok (.dstore_n k, 1)) (hi : (k : Nat) = i) (hn : i + 1 < nL) (ls st M bc bs) (h : i_dst i (xAt p l e R s m args below meth c Q D b0 nL M0 r0 (pc + 1)) ls st M bc bs) : xAt p l e R s m args below meth c Q D b0 nL M0 r0 pc ls st M bc bs := by
  unfold i_dst at h
  split at h
  · next x0 st0 =>
    intro r H locs cells slots als hS
    exact lv_dstore_n C.1 C.2.1 hd hi hS.1 hn (xst2_map r ls i (vD (x0))).symm (fun ls1 h1 => h r H locs cells slots ls1 ⟨h1, hS.2.1, hS.2.2.1, xls2 hS.2.2.2.1 trivial, xtail hS.2.2.2.2.1, hS.2.2.2.2.2⟩)
  · exact h.elim
theorem s_dstore {i : Nat} (C : xC p s m args meth c cc nL own D b0) (hd : decode cc pc = .ok (.dstore i, 2)) (hn : i + 1 < nL) (ls st M bc bs) (h : i_dst i (xAt p l e R s m args below meth c Q D b0 nL M0 r0 (pc + 2)) ls st M bc bs) : xAt p l e R s m args below meth c Q D b0 nL M0 r0 pc ls st M bc bs := by
  unfold i_dst at h
  split at h
  · next x0 st0 =>
    intro r H locs cells slots als hS
    exact lv_dstore C.1 C.2.1 hd hS.1 hn (xst2_map r ls i (vD (x0))).symm (fun ls1 h1 => h r H locs cells slots ls1 ⟨h1, hS.2.1, hS.2.2.1, xls2 hS.2.2.2.1 trivial, xtail hS.2.2.2.2.1, hS.2.2.2.2.2⟩)
  · exact h.elim
def i_ast (i : Nat) (K : XK) : XK := fun ls st M bc bs => match st with
  | .inr (.inr (.inr (k, o))) :: st => K (xst1 ls i (vR k o)) st M bc bs
  | _ => False
theorem s_astore_n {k : Fin 4} {i : Nat} (C : xC p s m args meth c cc nL own D b0) (hd : decode cc pc = .ok (.astore_n k, 1)) (hi : (k : Nat) = i) (hn : i < nL) (ls st M bc bs) (h : i_ast i (xAt p l e R s m args below meth c Q D b0 nL M0 r0 (pc + 1)) ls st M bc bs) : xAt p l e R s m args below meth c Q D b0 nL M0 r0 pc ls st M bc bs := by
  unfold i_ast at h
  split at h
  · next k0 o st0 =>
    intro r H locs cells slots als hS
    cases o with
    | none => exact lv_astore_nN C.1 C.2.1 hd hi hS.1 hn (xst1_map r _ i (vR k0 none)).symm (fun ls1 h1 => h r H locs cells slots ls1 ⟨h1, hS.2.1, hS.2.2.1, xls1 hS.2.2.2.1 (xhead hS.2.2.2.2.1), xtail hS.2.2.2.2.1, hS.2.2.2.2.2⟩)
    | some j => exact lv_astore_n C.1 C.2.1 hd hi hS.1 hn (xst1_map r _ i (vR k0 (some j))).symm (fun ls1 h1 => h r H locs cells slots ls1 ⟨h1, hS.2.1, hS.2.2.1, xls1 hS.2.2.2.1 (xhead hS.2.2.2.2.1), xtail hS.2.2.2.2.1, hS.2.2.2.2.2⟩)
  · exact h.elim
theorem s_astore {i : Nat} (C : xC p s m args meth c cc nL own D b0) (hd : decode cc pc = .ok (.astore i, 2)) (hn : i < nL) (ls st M bc bs) (h : i_ast i (xAt p l e R s m args below meth c Q D b0 nL M0 r0 (pc + 2)) ls st M bc bs) : xAt p l e R s m args below meth c Q D b0 nL M0 r0 pc ls st M bc bs := by
  unfold i_ast at h
  split at h
  · next k0 o st0 =>
    intro r H locs cells slots als hS
    cases o with
    | none => exact lv_astoreN C.1 C.2.1 hd hS.1 hn (xst1_map r _ i (vR k0 none)).symm (fun ls1 h1 => h r H locs cells slots ls1 ⟨h1, hS.2.1, hS.2.2.1, xls1 hS.2.2.2.1 (xhead hS.2.2.2.2.1), xtail hS.2.2.2.2.1, hS.2.2.2.2.2⟩)
    | some j => exact lv_astore C.1 C.2.1 hd hS.1 hn (xst1_map r _ i (vR k0 (some j))).symm (fun ls1 h1 => h r H locs cells slots ls1 ⟨h1, hS.2.1, hS.2.2.1, xls1 hS.2.2.2.1 (xhead hS.2.2.2.2.1), xtail hS.2.2.2.2.1, hS.2.2.2.2.2⟩)
  · exact h.elim
def i_iinc (i : Nat) (n : Int32) (K : XK) : XK := fun ls st M bc bs => match ls.lookup i with
  | some (.inl x) => K (xst1 ls i (vI (x + n))) st M bc bs
  | _ => False
theorem s_iinc {i : Nat} {n0 : Int} {n : Int32} (C : xC p s m args meth c cc nL own D b0) (hd : decode cc pc = .ok (.iinc i n0, 3)) (hv : Int32.ofInt n0 = n) (hn : i < nL) (ls st M bc bs) (h : i_iinc i n (xAt p l e R s m args below meth c Q D b0 nL M0 r0 (pc + 3)) ls st M bc bs) : xAt p l e R s m args below meth c Q D b0 nL M0 r0 pc ls st M bc bs := by
  unfold i_iinc at h
  split at h
  · next x hq =>
    intro r H locs cells slots als hS
    subst hv
    obtain ⟨z, hz⟩ := List.getElem?_of_mem (xlook hq)
    exact lv_iinc (k := z) C.1 C.2.1 hd hS.1 (by rw [List.getElem?_map, hz]; rfl) rfl hn (xst1_map r _ i (vI (x + Int32.ofInt n0))).symm (fun ls1 h1 => h r H locs cells slots ls1 ⟨h1, hS.2.1, hS.2.2.1, xls1 hS.2.2.2.1 trivial, hS.2.2.2.2⟩)
  · exact h.elim
end XJ
