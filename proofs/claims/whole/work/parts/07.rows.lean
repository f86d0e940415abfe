section XR
variable {p : Program} {l : Launch} {e : Env} {R : Room} {s : State} {m : MethodId} {args : Array Value} {below : List Frame} {meth : Method} {c : Code} {Q : State → Prop}
variable {cc : ByteArray} {nL : Nat} {own : String} {D : DX} {b0 : Nat} {M0 : XM} {r0 : Nat → Nat → Nat} {pc : Nat}

def i_if_eq (Kt Kf : XK) : XK := fun ls st M bc bs => match st with
  | .inl x :: st => (x = 0 → Kt ls st M bc bs) ∧ (¬ x = 0 → Kf ls st M bc bs)
  | _ => False
theorem s_if_eq {off : Int} {tgt : Nat} (C : xC p s m args meth c cc nL own D b0) (hd : decode cc pc = .ok (.ifCond .eq off, 3)) (ht : (pc : Int) + off = (tgt : Int)) (ls st M bc bs) (h : i_if_eq (xAt p l e R s m args below meth c Q D b0 nL M0 r0 tgt) (xAt p l e R s m args below meth c Q D b0 nL M0 r0 (pc + 3)) ls st M bc bs) : xAt p l e R s m args below meth c Q D b0 nL M0 r0 pc ls st M bc bs := by
  unfold i_if_eq at h
  split at h
  · intro r H locs cells slots als hS
    have hS2 := hS.2.2.2.2
    exact lv_if_eq C.1 C.2.1 hd ht (fun z => h.1 z r H locs cells slots als ⟨hS.1, hS.2.1, hS.2.2.1, hS.2.2.2.1, xtail hS2.1, hS2.2⟩) (fun z => h.2 z r H locs cells slots als ⟨hS.1, hS.2.1, hS.2.2.1, hS.2.2.2.1, xtail hS2.1, hS2.2⟩)
  · exact h.elim
def i_icmp_eq (Kt Kf : XK) : XK := fun ls st M bc bs => match st with
  | .inl y :: .inl x :: st => (x = y → Kt ls st M bc bs) ∧ (¬ x = y → Kf ls st M bc bs)
  | _ => False
theorem s_icmp_eq {off : Int} {tgt : Nat} (C : xC p s m args meth c cc nL own D b0) (hd : decode cc pc = .ok (.if_icmp .eq off, 3)) (ht : (pc : Int) + off = (tgt : Int)) (ls st M bc bs) (h : i_icmp_eq (xAt p l e R s m args below meth c Q D b0 nL M0 r0 tgt) (xAt p l e R s m args below meth c Q D b0 nL M0 r0 (pc + 3)) ls st M bc bs) : xAt p l e R s m args below meth c Q D b0 nL M0 r0 pc ls st M bc bs := by
  unfold i_icmp_eq at h
  split at h
  · intro r H locs cells slots als hS
    have hS2 := hS.2.2.2.2
    exact lv_icmp_eq C.1 C.2.1 hd ht (fun z => h.1 z r H locs cells slots als ⟨hS.1, hS.2.1, hS.2.2.1, hS.2.2.2.1, xtail (xtail hS2.1), hS2.2⟩) (fun z => h.2 z r H locs cells slots als ⟨hS.1, hS.2.1, hS.2.2.1, hS.2.2.2.1, xtail (xtail hS2.1), hS2.2⟩)
  · exact h.elim
def i_if_lt (Kt Kf : XK) : XK := fun ls st M bc bs => match st with
  | .inl x :: st => (x < 0 → Kt ls st M bc bs) ∧ (¬ x < 0 → Kf ls st M bc bs)
  | _ => False
theorem s_if_lt {off : Int} {tgt : Nat} (C : xC p s m args meth c cc nL own D b0) (hd : decode cc pc = .ok (.ifCond .lt off, 3)) (ht : (pc : Int) + off = (tgt : Int)) (ls st M bc bs) (h : i_if_lt (xAt p l e R s m args below meth c Q D b0 nL M0 r0 tgt) (xAt p l e R s m args below meth c Q D b0 nL M0 r0 (pc + 3)) ls st M bc bs) : xAt p l e R s m args below meth c Q D b0 nL M0 r0 pc ls st M bc bs := by
  unfold i_if_lt at h
  split at h
  · intro r H locs cells slots als hS
    have hS2 := hS.2.2.2.2
    exact lv_if_lt C.1 C.2.1 hd ht (fun z => h.1 z r H locs cells slots als ⟨hS.1, hS.2.1, hS.2.2.1, hS.2.2.2.1, xtail hS2.1, hS2.2⟩) (fun z => h.2 z r H locs cells slots als ⟨hS.1, hS.2.1, hS.2.2.1, hS.2.2.2.1, xtail hS2.1, hS2.2⟩)
  · exact h.elim
def i_icmp_lt (Kt Kf : XK) : XK := fun ls st M bc bs => match st with
  | .inl y :: .inl x :: st => (x < y → Kt ls st M bc bs) ∧ (¬ x < y → Kf ls st M bc bs)
  | _ => False
theorem s_icmp_lt {off : Int} {tgt : Nat} (C : xC p s m args meth c cc nL own D b0) (hd : decode cc pc = .ok (.if_icmp .lt off, 3)) (ht : (pc : Int) + off = (tgt : Int)) (ls st M bc bs) (h : i_icmp_lt (xAt p l e R s m args below meth c Q D b0 nL M0 r0 tgt) (xAt p l e R s m args below meth c Q D b0 nL M0 r0 (pc + 3)) ls st M bc bs) : xAt p l e R s m args below meth c Q D b0 nL M0 r0 pc ls st M bc bs := by
  unfold i_icmp_lt at h
  split at h
  · intro r H locs cells slots als hS
    have hS2 := hS.2.2.2.2
    exact lv_icmp_lt C.1 C.2.1 hd ht (fun z => h.1 z r H locs cells slots als ⟨hS.1, hS.2.1, hS.2.2.1, hS.2.2.2.1, xtail (xtail hS2.1), hS2.2⟩) (fun z => h.2 z r H locs cells slots als ⟨hS.1, hS.2.1, hS.2.2.1, hS.2.2.2.1, xtail (xtail hS2.1), hS2.2⟩)
  · exact h.elim
def i_if_ge (Kt Kf : XK) : XK := fun ls st M bc bs => match st with
  | .inl x :: st => (0 ≤ x → Kt ls st M bc bs) ∧ (¬ 0 ≤ x → Kf ls st M bc bs)
  | _ => False
theorem s_if_ge {off : Int} {tgt : Nat} (C : xC p s m args meth c cc nL own D b0) (hd : decode cc pc = .ok (.ifCond .ge off, 3)) (ht : (pc : Int) + off = (tgt : Int)) (ls st M bc bs) (h : i_if_ge (xAt p l e R s m args below meth c Q D b0 nL M0 r0 tgt) (xAt p l e R s m args below meth c Q D b0 nL M0 r0 (pc + 3)) ls st M bc bs) : xAt p l e R s m args below meth c Q D b0 nL M0 r0 pc ls st M bc bs := by
  unfold i_if_ge at h
  split at h
  · intro r H locs cells slots als hS
    have hS2 := hS.2.2.2.2
    exact lv_if_ge C.1 C.2.1 hd ht (fun z => h.1 z r H locs cells slots als ⟨hS.1, hS.2.1, hS.2.2.1, hS.2.2.2.1, xtail hS2.1, hS2.2⟩) (fun z => h.2 z r H locs cells slots als ⟨hS.1, hS.2.1, hS.2.2.1, hS.2.2.2.1, xtail hS2.1, hS2.2⟩)
  · exact h.elim
def i_icmp_ge (Kt Kf : XK) : XK := fun ls st M bc bs => match st with
  | .inl y :: .inl x :: st => (y ≤ x → Kt ls st M bc bs) ∧ (¬ y ≤ x → Kf ls st M bc bs)
  | _ => False
theorem s_icmp_ge {off : Int} {tgt : Nat} (C : xC p s m args meth c cc nL own D b0) (hd : decode cc pc = .ok (.if_icmp .ge off, 3)) (ht : (pc : Int) + off = (tgt : Int)) (ls st M bc bs) (h : i_icmp_ge (xAt p l e R s m args below meth c Q D b0 nL M0 r0 tgt) (xAt p l e R s m args below meth c Q D b0 nL M0 r0 (pc + 3)) ls st M bc bs) : xAt p l e R s m args below meth c Q D b0 nL M0 r0 pc ls st M bc bs := by
  unfold i_icmp_ge at h
  split at h
  · intro r H locs cells slots als hS
    have hS2 := hS.2.2.2.2
    exact lv_icmp_ge C.1 C.2.1 hd ht (fun z => h.1 z r H locs cells slots als ⟨hS.1, hS.2.1, hS.2.2.1, hS.2.2.2.1, xtail (xtail hS2.1), hS2.2⟩) (fun z => h.2 z r H locs cells slots als ⟨hS.1, hS.2.1, hS.2.2.1, hS.2.2.2.1, xtail (xtail hS2.1), hS2.2⟩)
  · exact h.elim
def i_if_gt (Kt Kf : XK) : XK := fun ls st M bc bs => match st with
  | .inl x :: st => (0 < x → Kt ls st M bc bs) ∧ (¬ 0 < x → Kf ls st M bc bs)
  | _ => False
theorem s_if_gt {off : Int} {tgt : Nat} (C : xC p s m args meth c cc nL own D b0) (hd : decode cc pc = .ok (.ifCond .gt off, 3)) (ht : (pc : Int) + off = (tgt : Int)) (ls st M bc bs) (h : i_if_gt (xAt p l e R s m args below meth c Q D b0 nL M0 r0 tgt) (xAt p l e R s m args below meth c Q D b0 nL M0 r0 (pc + 3)) ls st M bc bs) : xAt p l e R s m args below meth c Q D b0 nL M0 r0 pc ls st M bc bs := by
  unfold i_if_gt at h
  split at h
  · intro r H locs cells slots als hS
    have hS2 := hS.2.2.2.2
    exact lv_if_gt C.1 C.2.1 hd ht (fun z => h.1 z r H locs cells slots als ⟨hS.1, hS.2.1, hS.2.2.1, hS.2.2.2.1, xtail hS2.1, hS2.2⟩) (fun z => h.2 z r H locs cells slots als ⟨hS.1, hS.2.1, hS.2.2.1, hS.2.2.2.1, xtail hS2.1, hS2.2⟩)
  · exact h.elim
def i_icmp_gt (Kt Kf : XK) : XK := fun ls st M bc bs => match st with
  | .inl y :: .inl x :: st => (y < x → Kt ls st M bc bs) ∧ (¬ y < x → Kf ls st M bc bs)
  | _ => False
theorem s_icmp_gt {off : Int} {tgt : Nat} (C : xC p s m args meth c cc nL own D b0) (hd : decode cc pc = .ok (.if_icmp .gt off, 3)) (ht : (pc : Int) + off = (tgt : Int)) (ls st M bc bs) (h : i_icmp_gt (xAt p l e R s m args below meth c Q D b0 nL M0 r0 tgt) (xAt p l e R s m args below meth c Q D b0 nL M0 r0 (pc + 3)) ls st M bc bs) : xAt p l e R s m args below meth c Q D b0 nL M0 r0 pc ls st M bc bs := by
  unfold i_icmp_gt at h
  split at h
  · intro r H locs cells slots als hS
    have hS2 := hS.2.2.2.2
    exact lv_icmp_gt C.1 C.2.1 hd ht (fun z => h.1 z r H locs cells slots als ⟨hS.1, hS.2.1, hS.2.2.1, hS.2.2.2.1, xtail (xtail hS2.1), hS2.2⟩) (fun z => h.2 z r H locs cells slots als ⟨hS.1, hS.2.1, hS.2.2.1, hS.2.2.2.1, xtail (xtail hS2.1), hS2.2⟩)
  · exact h.elim
def i_if_le (Kt Kf : XK) : XK := fun ls st M bc bs => match st with
  | .inl x :: st => (x ≤ 0 → Kt ls st M bc bs) ∧ (¬ x ≤ 0 → Kf ls st M bc bs)
  | _ => False
theorem s_if_le {off : Int} {tgt : Nat} (C : xC p s m args meth c cc nL own D b0) (hd : decode cc pc = .ok (.ifCond .le off, 3)) (ht : (pc : Int) + off = (tgt : Int)) (ls st M bc bs) (h : i_if_le (xAt p l e R s m args below meth c Q D b0 nL M0 r0 tgt) (xAt p l e R s m args below meth c Q D b0 nL M0 r0 (pc + 3)) ls st M bc bs) : xAt p l e R s m args below meth c Q D b0 nL M0 r0 pc ls st M bc bs := by
  unfold i_if_le at h
  split at h
  · intro r H locs cells slots als hS
    have hS2 := hS.2.2.2.2
    exact lv_if_le C.1 C.2.1 hd ht (fun z => h.1 z r H locs cells slots als ⟨hS.1, hS.2.1, hS.2.2.1, hS.2.2.2.1, xtail hS2.1, hS2.2⟩) (fun z => h.2 z r H locs cells slots als ⟨hS.1, hS.2.1, hS.2.2.1, hS.2.2.2.1, xtail hS2.1, hS2.2⟩)
  · exact h.elim
def i_icmp_le (Kt Kf : XK) : XK := fun ls st M bc bs => match st with
  | .inl y :: .inl x :: st => (x ≤ y → Kt ls st M bc bs) ∧ (¬ x ≤ y → Kf ls st M bc bs)
  | _ => False
theorem s_icmp_le {off : Int} {tgt : Nat} (C : xC p s m args meth c cc nL own D b0) (hd : decode cc pc = .ok (.if_icmp .le off, 3)) (ht : (pc : Int) + off = (tgt : Int)) (ls st M bc bs) (h : i_icmp_le (xAt p l e R s m args below meth c Q D b0 nL M0 r0 tgt) (xAt p l e R s m args below meth c Q D b0 nL M0 r0 (pc + 3)) ls st M bc bs) : xAt p l e R s m args below meth c Q D b0 nL M0 r0 pc ls st M bc bs := by
  unfold i_icmp_le at h
  split at h
  · intro r H locs cells slots als hS
    have hS2 := hS.2.2.2.2
    exact lv_icmp_le C.1 C.2.1 hd ht (fun z => h.1 z r H locs cells slots als ⟨hS.1, hS.2.1, hS.2.2.1, hS.2.2.2.1, xtail (xtail hS2.1), hS2.2⟩) (fun z => h.2 z r H locs cells slots als ⟨hS.1, hS.2.1, hS.2.2.1, hS.2.2.2.1, xtail (xtail hS2.1), hS2.2⟩)
  · exact h.elim
def i_if_ne (Kt Kf : XK) : XK := fun ls st M bc bs => match st with
  | .inl x :: st => (¬ x = 0 → Kt ls st M bc bs) ∧ (x = 0 → Kf ls st M bc bs)
  | _ => False
theorem s_if_ne {off : Int} {tgt : Nat} (C : xC p s m args meth c cc nL own D b0) (hd : decode cc pc = .ok (.ifCond .ne off, 3)) (ht : (pc : Int) + off = (tgt : Int)) (ls st M bc bs) (h : i_if_ne (xAt p l e R s m args below meth c Q D b0 nL M0 r0 tgt) (xAt p l e R s m args below meth c Q D b0 nL M0 r0 (pc + 3)) ls st M bc bs) : xAt p l e R s m args below meth c Q D b0 nL M0 r0 pc ls st M bc bs := by
  unfold i_if_ne at h
  split at h
  · intro r H locs cells slots als hS
    have hS2 := hS.2.2.2.2
    exact lv_if_ne C.1 C.2.1 hd ht (fun z => h.1 z r H locs cells slots als ⟨hS.1, hS.2.1, hS.2.2.1, hS.2.2.2.1, xtail hS2.1, hS2.2⟩) (fun z => h.2 z r H locs cells slots als ⟨hS.1, hS.2.1, hS.2.2.1, hS.2.2.2.1, xtail hS2.1, hS2.2⟩)
  · exact h.elim
def i_icmp_ne (Kt Kf : XK) : XK := fun ls st M bc bs => match st with
  | .inl y :: .inl x :: st => (¬ x = y → Kt ls st M bc bs) ∧ (x = y → Kf ls st M bc bs)
  | _ => False
theorem s_icmp_ne {off : Int} {tgt : Nat} (C : xC p s m args meth c cc nL own D b0) (hd : decode cc pc = .ok (.if_icmp .ne off, 3)) (ht : (pc : Int) + off = (tgt : Int)) (ls st M bc bs) (h : i_icmp_ne (xAt p l e R s m args below meth c Q D b0 nL M0 r0 tgt) (xAt p l e R s m args below meth c Q D b0 nL M0 r0 (pc + 3)) ls st M bc bs) : xAt p l e R s m args below meth c Q D b0 nL M0 r0 pc ls st M bc bs := by
  unfold i_icmp_ne at h
  split at h
  · intro r H locs cells slots als hS
    have hS2 := hS.2.2.2.2
    exact lv_icmp_ne C.1 C.2.1 hd ht (fun z => h.1 z r H locs cells slots als ⟨hS.1, hS.2.1, hS.2.2.1, hS.2.2.2.1, xtail (xtail hS2.1), hS2.2⟩) (fun z => h.2 z r H locs cells slots als ⟨hS.1, hS.2.1, hS.2.2.1, hS.2.2.2.1, xtail (xtail hS2.1), hS2.2⟩)
  · exact h.elim
def i_goto (K : XK) : XK := K
theorem s_goto {off : Int} {tgt : Nat} (C : xC p s m args meth c cc nL own D b0) (hd : decode cc pc = .ok (.goto off, 3)) (ht : (pc : Int) + off = (tgt : Int)) (ls st M bc bs) (h : i_goto (xAt p l e R s m args below meth c Q D b0 nL M0 r0 tgt) ls st M bc bs) : xAt p l e R s m args below meth c Q D b0 nL M0 r0 pc ls st M bc bs := by
  unfold i_goto at h
  exact xstep h (fun h _ => h) (fun _ _ _ _ _ _ _ k => lv_goto C.1 C.2.1 hd ht k)
def i_ifnull (Kt Kf : XK) : XK := fun ls st M bc bs => match st with
  | .inr (.inr (.inr (_, o))) :: st => (o = none → Kt ls st M bc bs) ∧ (¬ o = none → Kf ls st M bc bs)
  | _ => False
theorem s_ifnull {off : Int} {tgt : Nat} (C : xC p s m args meth c cc nL own D b0) (hd : decode cc pc = .ok (.ifnull off, 3)) (ht : (pc : Int) + off = (tgt : Int)) (ls st M bc bs) (h : i_ifnull (xAt p l e R s m args below meth c Q D b0 nL M0 r0 tgt) (xAt p l e R s m args below meth c Q D b0 nL M0 r0 (pc + 3)) ls st M bc bs) : xAt p l e R s m args below meth c Q D b0 nL M0 r0 pc ls st M bc bs := by
  unfold i_ifnull at h
  split at h
  · next k0 o st0 =>
    cases o with
    | none => exact xstep (h.1 rfl) (fun h _ => xtail h) (fun _ _ _ _ _ _ _ k => lv_ifnullN C.1 C.2.1 hd ht k)
    | some j => exact xstep (h.2 (by simp)) (fun h _ => xtail h) (fun _ _ _ _ _ _ _ k => lv_ifnull C.1 C.2.1 hd k)
  · exact h.elim
def i_ifnonnull (Kt Kf : XK) : XK := fun ls st M bc bs => match st with
  | .inr (.inr (.inr (_, o))) :: st => (¬ o = none → Kt ls st M bc bs) ∧ (o = none → Kf ls st M bc bs)
  | _ => False
theorem s_ifnonnull {off : Int} {tgt : Nat} (C : xC p s m args meth c cc nL own D b0) (hd : decode cc pc = .ok (.ifnonnull off, 3)) (ht : (pc : Int) + off = (tgt : Int)) (ls st M bc bs) (h : i_ifnonnull (xAt p l e R s m args below meth c Q D b0 nL M0 r0 tgt) (xAt p l e R s m args below meth c Q D b0 nL M0 r0 (pc + 3)) ls st M bc bs) : xAt p l e R s m args below meth c Q D b0 nL M0 r0 pc ls st M bc bs := by
  unfold i_ifnonnull at h
  split at h
  · next k0 o st0 =>
    cases o with
    | none => exact xstep (h.2 rfl) (fun h _ => xtail h) (fun _ _ _ _ _ _ _ k => lv_ifnonnullN C.1 C.2.1 hd k)
    | some j => exact xstep (h.1 (by simp)) (fun h _ => xtail h) (fun _ _ _ _ _ _ _ k => lv_ifnonnull C.1 C.2.1 hd ht k)
  · exact h.elim
/-- which objects are one: of one kind, by their numbers -/
theorem xP_inj {r : Nat → Nat → Nat} {M : XM} {H : Heap} (hP : xP D b0 r M H) {k : Nat} {o1 o2 : Option Nat} (h99 : ¬ k = 99) (h1 : xlive M (vR k o1)) (h2 : xlive M (vR k o2)) : o1.map (r k) = o2.map (r k) ↔ o1 = o2 := by
  constructor
  · intro h
    cases o1 with
    | none => cases o2 with
      | none => rfl
      | some b => cases h
    | some a => cases o2 with
      | none => cases h
      | some b =>
        obtain ⟨ks, hk, -, hD⟩ := hP
        obtain ⟨n1, a1, w1⟩ := xW_at (D := D) (r := r) (M := M) ((hk k a).mp ⟨h1, h99⟩)
        obtain ⟨n2, a2, w2⟩ := xW_at (D := D) (r := r) (M := M) ((hk k b).mp ⟨h2, h99⟩)
        have e := hD.1 n1 n2 _ _ w1 w2 (Option.some.inj h)
        subst e
        rw [a1] at a2
        injection a2 with a3
        injection a3 with _ a4
        rw [a4]
  · intro h
    rw [h]
def i_acmp_ne (Kt Kf : XK) : XK := fun ls st M bc bs => match st with
  | .inr (.inr (.inr (k2, o2))) :: .inr (.inr (.inr (k1, o1))) :: st => k1 = k2 ∧ ¬ k1 = 99 ∧ (¬ o1 = o2 → Kt ls st M bc bs) ∧ (o1 = o2 → Kf ls st M bc bs)
  | _ => False
theorem s_acmp_ne {off : Int} {tgt : Nat} (C : xC p s m args meth c cc nL own D b0) (hd : decode cc pc = .ok (.if_acmp .ne off, 3)) (ht : (pc : Int) + off = (tgt : Int)) (ls st M bc bs) (h : i_acmp_ne (xAt p l e R s m args below meth c Q D b0 nL M0 r0 tgt) (xAt p l e R s m args below meth c Q D b0 nL M0 r0 (pc + 3)) ls st M bc bs) : xAt p l e R s m args below meth c Q D b0 nL M0 r0 pc ls st M bc bs := by
  unfold i_acmp_ne at h
  split at h
  · next k2 o2 k1 o1 st0 =>
    obtain ⟨rfl, h99, ha, hb⟩ := h
    intro r H locs cells slots als hS
    have hS2 := hS.2.2.2.2
    have hi := xP_inj hS.2.1 h99 (xhead (xtail hS2.1)) (xhead hS2.1)
    refine lv_acmp_ne C.1 C.2.1 hd ht (fun z => ha (fun q => z (hi.mpr q)) r H locs cells slots als ⟨hS.1, hS.2.1, hS.2.2.1, hS.2.2.2.1, xtail (xtail hS2.1), hS2.2⟩) (fun z => hb (hi.mp z) r H locs cells slots als ⟨hS.1, hS.2.1, hS.2.2.1, hS.2.2.2.1, xtail (xtail hS2.1), hS2.2⟩)
  · exact h.elim
/-- what is known of a class: its fields, their words, their sorts -/
def xCls (k : Nat) (Cn : String) (T : u_T) (N : Nat) (ty : Nat → FieldType) : Prop := k < 10 ∧ vwCl[k]? = some (Cn, T, N) ∧ (∀ w ∈ u_ws Cn T N, w ∈ wsG) ∧ (∀ j, j < N → parseFieldDescriptor (T j).2.2.1 = some (ty j)) ∧ (∀ a, a < N → ∀ b, b < N → a ≠ b → (T a).2.1 ≠ (T b).2.1) ∧ (xFd k).length = N ∧ ∀ j, j < N → defaultValue (ty j) = (if ((xFd k).getD j (0, 0)).1 = 1 then .long 0 else if ((xFd k).getD j (0, 0)).1 = 3 then .null else .int 0)
theorem xE_obj {r : Nat → Nat → Nat} {M : XM} {k i : Nat} (h : k < 10) : xE D r M k i = .inr (k, xFl r M k i) := by unfold xE; rw [if_pos h]
theorem xget {k j i index N : Nat} {Cn : String} {T : u_T} {ty : Nat → FieldType} {d : Nat × Nat} {M : XM} {r : Nat → Nat → Nat} {H : Heap} {locs : List Loc} {cells slots : Nat} {als : Array Slot} {rest : List Value} (C : xC p s m args meth c cc nL own D b0) (hc : xCls k Cn T N ty) (hs : (xFd k)[j]? = some d) (hl : Cond.fieldLink own index (T j).1 (T j).2.1 (T j).2.2.1 ∈ wsG) (hd : decode cc pc = .ok (.getfield index, 3)) (hP : xP D b0 r M H) (hv : gV M k i = true)
    (kk : W p l e R s m args below meth c H locs cells slots Q (F0 m (pc + 3) als (xfv r M (100 * (k + 1) + j) i d :: rest))) : W p l e R s m args below meth c H locs cells slots Q (F0 m pc als (.ref (r k i) :: rest)) := by
  obtain ⟨ks, hk, hPw, hDw⟩ := hP
  obtain ⟨n, hn, hw⟩ := xW_at (D := D) (r := r) (M := M) ((hk k i).mp ⟨hv, by have := hc.1; omega⟩)
  rw [xE_obj hc.1] at hw
  have hj : j < N := by rw [← hc.2.2.2.2.2.1]; exact (List.getElem?_eq_some_iff.mp hs).1
  exact va_get C.1 C.2.1 C.2.2.2.2.1 hc.2.2.1 C.2.2.2.1 C.2.2.2.2.2.1.1 hPw n hw hc.2.1 j hj (C.2.2.2.2.1 _ hl) (fun x h => h) (by rw [xFl_at, hs]; rfl) hd kk
theorem xgetN {k j i index N : Nat} {Cn : String} {T : u_T} {ty : Nat → FieldType} {d : Nat × Nat} {M : XM} {r : Nat → Nat → Nat} {H : Heap} {locs : List Loc} {cells slots : Nat} {als : Array Slot} {rest : List Value} (C : xC p s m args meth c cc nL own D b0) (hc : xCls k Cn T N ty) (hs : (xFd k)[j]? = some d) (hl : (own, index, (T j).1, (T j).2.1, (T j).2.2.1) ∈ xNF) (hd : decode cc pc = .ok (.getfield index, 3)) (hP : xP D b0 r M H) (hv : gV M k i = true)
    (kk : W p l e R s m args below meth c H locs cells slots Q (F0 m (pc + 3) als (xfv r M (100 * (k + 1) + j) i d :: rest))) : W p l e R s m args below meth c H locs cells slots Q (F0 m pc als (.ref (r k i) :: rest)) := by
  obtain ⟨ks, hk, hPw, hDw⟩ := hP
  obtain ⟨n, hn, hw⟩ := xW_at (D := D) (r := r) (M := M) ((hk k i).mp ⟨hv, by have := hc.1; omega⟩)
  rw [xE_obj hc.1] at hw
  have hj : j < N := by rw [← hc.2.2.2.2.2.1]; exact (List.getElem?_eq_some_iff.mp hs).1
  exact va_getN (host := RX8) C.1 C.2.1 C.2.2.2.2.1 hc.2.2.1 C.2.2.2.1 C.2.2.2.2.2.1.1 hPw n hw hc.2.1 j hj (va_Nw.use rfl (C.2.2.2.2.2.1.2.1 _ hl)) (fun x h => h) (by rw [xFl_at, hs]; rfl) hd kk

def i_getI (k f : Nat) (K : XK) : XK := fun ls st M bc bs => match st with
  | .inr (.inr (.inr (k1, o))) :: st => k1 = k ∧ ∃ i, o = some i ∧ K ls (vI (gI M f i 0) :: st) M bc bs
  | _ => False
theorem s_getI {k j f index N : Nat} {Cn : String} {T : u_T} {ty : Nat → FieldType} {d : Nat × Nat} (C : xC p s m args meth c cc nL own D b0) (hd : decode cc pc = .ok (.getfield index, 3)) (hc : xCls k Cn T N ty) (hs : (xFd k)[j]? = some d) (ht : d.1 = 0 ∨ d.1 = 2) (hf : f = 100 * (k + 1) + j) (hl : Cond.fieldLink own index (T j).1 (T j).2.1 (T j).2.2.1 ∈ wsG) (ls st M bc bs) (h : i_getI k f (xAt p l e R s m args below meth c Q D b0 nL M0 r0 (pc + 3)) ls st M bc bs) : xAt p l e R s m args below meth c Q D b0 nL M0 r0 pc ls st M bc bs := by
  unfold i_getI at h
  split at h
  · next k1 o st0 =>
    obtain ⟨rfl, i, rfl, h⟩ := h
    intro r H locs cells slots als hS
    have hS2 := hS.2.2.2.2
    refine xget C hc hs hl hd hS.2.1 (xhead hS2.1) ?_
    have hv : xfv r M (100 * (k1 + 1) + j) i d = xv r (vI (gI M f i 0)) := by
      rw [← hf]
      exact (by rcases ht with h | h <;> simp [xfv, h, xv])
    rw [hv]
    exact h r H locs cells slots als ⟨hS.1, hS.2.1, hS.2.2.1, hS.2.2.2.1, xcons (trivial) (xtail hS2.1), hS2.2⟩
  · exact h.elim
theorem s_getIN {k j f index N : Nat} {Cn : String} {T : u_T} {ty : Nat → FieldType} {d : Nat × Nat} (C : xC p s m args meth c cc nL own D b0) (hd : decode cc pc = .ok (.getfield index, 3)) (hc : xCls k Cn T N ty) (hs : (xFd k)[j]? = some d) (ht : d.1 = 0 ∨ d.1 = 2) (hf : f = 100 * (k + 1) + j) (hl : (own, index, (T j).1, (T j).2.1, (T j).2.2.1) ∈ xNF) (ls st M bc bs) (h : i_getI k f (xAt p l e R s m args below meth c Q D b0 nL M0 r0 (pc + 3)) ls st M bc bs) : xAt p l e R s m args below meth c Q D b0 nL M0 r0 pc ls st M bc bs := by
  unfold i_getI at h
  split at h
  · next k1 o st0 =>
    obtain ⟨rfl, i, rfl, h⟩ := h
    intro r H locs cells slots als hS
    have hS2 := hS.2.2.2.2
    refine xgetN C hc hs hl hd hS.2.1 (xhead hS2.1) ?_
    have hv : xfv r M (100 * (k1 + 1) + j) i d = xv r (vI (gI M f i 0)) := by
      rw [← hf]
      exact (by rcases ht with h | h <;> simp [xfv, h, xv])
    rw [hv]
    exact h r H locs cells slots als ⟨hS.1, hS.2.1, hS.2.2.1, hS.2.2.2.1, xcons (trivial) (xtail hS2.1), hS2.2⟩
  · exact h.elim
def i_getL (k f : Nat) (K : XK) : XK := fun ls st M bc bs => match st with
  | .inr (.inr (.inr (k1, o))) :: st => k1 = k ∧ ∃ i, o = some i ∧ K ls (vL (gL M f i 0) :: st) M bc bs
  | _ => False
theorem s_getL {k j f index N : Nat} {Cn : String} {T : u_T} {ty : Nat → FieldType} {d : Nat × Nat} (C : xC p s m args meth c cc nL own D b0) (hd : decode cc pc = .ok (.getfield index, 3)) (hc : xCls k Cn T N ty) (hs : (xFd k)[j]? = some d) (ht : d.1 = 1) (hf : f = 100 * (k + 1) + j) (hl : Cond.fieldLink own index (T j).1 (T j).2.1 (T j).2.2.1 ∈ wsG) (ls st M bc bs) (h : i_getL k f (xAt p l e R s m args below meth c Q D b0 nL M0 r0 (pc + 3)) ls st M bc bs) : xAt p l e R s m args below meth c Q D b0 nL M0 r0 pc ls st M bc bs := by
  unfold i_getL at h
  split at h
  · next k1 o st0 =>
    obtain ⟨rfl, i, rfl, h⟩ := h
    intro r H locs cells slots als hS
    have hS2 := hS.2.2.2.2
    refine xget C hc hs hl hd hS.2.1 (xhead hS2.1) ?_
    have hv : xfv r M (100 * (k1 + 1) + j) i d = xv r (vL (gL M f i 0)) := by
      rw [← hf]
      exact (by simp [xfv, ht, xv])
    rw [hv]
    exact h r H locs cells slots als ⟨hS.1, hS.2.1, hS.2.2.1, hS.2.2.2.1, xcons (trivial) (xtail hS2.1), hS2.2⟩
  · exact h.elim
theorem s_getLN {k j f index N : Nat} {Cn : String} {T : u_T} {ty : Nat → FieldType} {d : Nat × Nat} (C : xC p s m args meth c cc nL own D b0) (hd : decode cc pc = .ok (.getfield index, 3)) (hc : xCls k Cn T N ty) (hs : (xFd k)[j]? = some d) (ht : d.1 = 1) (hf : f = 100 * (k + 1) + j) (hl : (own, index, (T j).1, (T j).2.1, (T j).2.2.1) ∈ xNF) (ls st M bc bs) (h : i_getL k f (xAt p l e R s m args below meth c Q D b0 nL M0 r0 (pc + 3)) ls st M bc bs) : xAt p l e R s m args below meth c Q D b0 nL M0 r0 pc ls st M bc bs := by
  unfold i_getL at h
  split at h
  · next k1 o st0 =>
    obtain ⟨rfl, i, rfl, h⟩ := h
    intro r H locs cells slots als hS
    have hS2 := hS.2.2.2.2
    refine xgetN C hc hs hl hd hS.2.1 (xhead hS2.1) ?_
    have hv : xfv r M (100 * (k1 + 1) + j) i d = xv r (vL (gL M f i 0)) := by
      rw [← hf]
      exact (by simp [xfv, ht, xv])
    rw [hv]
    exact h r H locs cells slots als ⟨hS.1, hS.2.1, hS.2.2.1, hS.2.2.2.1, xcons (trivial) (xtail hS2.1), hS2.2⟩
  · exact h.elim
def i_getR (k f tk : Nat) (K : XK) : XK := fun ls st M bc bs => match st with
  | .inr (.inr (.inr (k1, o))) :: st => k1 = k ∧ ∃ i, o = some i ∧ K ls (vR tk (gR M f i 0) :: st) M bc bs
  | _ => False
theorem s_getR {k j f index N tk : Nat} {Cn : String} {T : u_T} {ty : Nat → FieldType} {d : Nat × Nat} (C : xC p s m args meth c cc nL own D b0) (hd : decode cc pc = .ok (.getfield index, 3)) (hc : xCls k Cn T N ty) (hs : (xFd k)[j]? = some d) (ht : d = (3, tk)) (hf : f = 100 * (k + 1) + j) (hl : Cond.fieldLink own index (T j).1 (T j).2.1 (T j).2.2.1 ∈ wsG) (ls st M bc bs) (h : i_getR k f tk (xAt p l e R s m args below meth c Q D b0 nL M0 r0 (pc + 3)) ls st M bc bs) : xAt p l e R s m args below meth c Q D b0 nL M0 r0 pc ls st M bc bs := by
  unfold i_getR at h
  split at h
  · next k1 o st0 =>
    obtain ⟨rfl, i, rfl, h⟩ := h
    intro r H locs cells slots als hS
    have hS2 := hS.2.2.2.2
    refine xget C hc hs hl hd hS.2.1 (xhead hS2.1) ?_
    have hv : xfv r M (100 * (k1 + 1) + j) i d = xv r (vR tk (gR M f i 0)) := by
      rw [← hf]
      exact (by rw [ht]; simp [xfv, xv])
    rw [hv]
    exact h r H locs cells slots als ⟨hS.1, hS.2.1, hS.2.2.1, hS.2.2.2.1, xcons (xlive_R (fun z hz => by have h1 := hS.2.2.1 _ _ _ _ hz; rw [show xTk f = tk by rw [hf]; unfold xTk; have h1 : (100 * (k1 + 1) + j) / 100 - 1 = k1 := (by have := (List.getElem?_eq_some_iff.mp hs).1; have := xFd_len k1; omega); have h2 : (100 * (k1 + 1) + j) % 100 = j := (by have := (List.getElem?_eq_some_iff.mp hs).1; have := xFd_len k1; omega); rw [h1, h2, if_pos hc.1, List.getD_eq_getElem?_getD, hs, ht]; rfl] at h1; exact h1)) (xtail hS2.1), hS2.2⟩
  · exact h.elim
theorem s_getRN {k j f index N tk : Nat} {Cn : String} {T : u_T} {ty : Nat → FieldType} {d : Nat × Nat} (C : xC p s m args meth c cc nL own D b0) (hd : decode cc pc = .ok (.getfield index, 3)) (hc : xCls k Cn T N ty) (hs : (xFd k)[j]? = some d) (ht : d = (3, tk)) (hf : f = 100 * (k + 1) + j) (hl : (own, index, (T j).1, (T j).2.1, (T j).2.2.1) ∈ xNF) (ls st M bc bs) (h : i_getR k f tk (xAt p l e R s m args below meth c Q D b0 nL M0 r0 (pc + 3)) ls st M bc bs) : xAt p l e R s m args below meth c Q D b0 nL M0 r0 pc ls st M bc bs := by
  unfold i_getR at h
  split at h
  · next k1 o st0 =>
    obtain ⟨rfl, i, rfl, h⟩ := h
    intro r H locs cells slots als hS
    have hS2 := hS.2.2.2.2
    refine xgetN C hc hs hl hd hS.2.1 (xhead hS2.1) ?_
    have hv : xfv r M (100 * (k1 + 1) + j) i d = xv r (vR tk (gR M f i 0)) := by
      rw [← hf]
      exact (by rw [ht]; simp [xfv, xv])
    rw [hv]
    exact h r H locs cells slots als ⟨hS.1, hS.2.1, hS.2.2.1, hS.2.2.2.1, xcons (xlive_R (fun z hz => by have h1 := hS.2.2.1 _ _ _ _ hz; rw [show xTk f = tk by rw [hf]; unfold xTk; have h1 : (100 * (k1 + 1) + j) / 100 - 1 = k1 := (by have := (List.getElem?_eq_some_iff.mp hs).1; have := xFd_len k1; omega); have h2 : (100 * (k1 + 1) + j) % 100 = j := (by have := (List.getElem?_eq_some_iff.mp hs).1; have := xFd_len k1; omega); rw [h1, h2, if_pos hc.1, List.getD_eq_getElem?_getD, hs, ht]; rfl] at h1; exact h1)) (xtail hS2.1), hS2.2⟩
  · exact h.elim
end XR
