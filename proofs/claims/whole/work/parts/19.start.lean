/-! The start: what the tables' words give. -/
theorem xtab {w : Cond} (h : w ∈ tables_1) : w ∈ lw_tbl := List.mem_append_right _ h
theorem xarr {s : State} {args : Array Value} {ty : FieldType} (h : (Cond.arrayClass ty).before args s = true) : ∃ cA : ClassId, ArrOfT s cA ty ∧ s.vm.findClass ("[" ++ ty.toString) = some cA := by
  obtain ⟨c, k, comp, h1, h2, h3⟩ := Cond.arrayClass_spec h
  exact ⟨c, fun n z => ⟨(fun q e => by cases e), k, h2, comp, h3⟩, h1⟩
theorem xarrO {s : State} {C : String} (h : va_AO C s) : ∃ cA : ClassId, ArrOfT s cA (.object C) ∧ va_RA s cA (.object C) := by
  obtain ⟨comp, c, k, h1, h2, h3, h4, h5⟩ := Cond.arrayOver_spec h
  exact ⟨c, fun n z => ⟨(fun q e => by cases e), k, h3, comp, h4⟩, k, comp, h3, h4, h1, h5⟩
set_option maxHeartbeats 1000000 in
theorem xK_start {s : State} {args : Array Value} (hts0 : ∀ w ∈ lw_tbl, w.before args s = true) : ∃ D : DX, xK D s := by
  have hts : ∀ w ∈ wsG, w.before args s = true := fun w h => hts0 w (xg_tbl h)
  have ht : ∀ w ∈ tables_1, w.before args s = true := fun w h => hts0 w (xtab h)
  obtain ⟨c0, i0, k0⟩ := u_known (C := RX0) (T := TX0) (N := 12) (n := 12) hts inG0 (hts _ kw_182)
  obtain ⟨c1, i1, k1⟩ := u_known (C := RX1) (T := TX1) (N := 4) (n := 4) hts inG1 (hts _ kw_434)
  obtain ⟨c2, i2, k2⟩ := u_known (C := RX2) (T := TX2) (N := 8) (n := 8) hts inG2 (hts _ kw_509)
  obtain ⟨c3, i3, k3⟩ := u_known (C := RX3) (T := TX3) (N := 6) (n := 6) hts inG3 (hts _ kw_27)
  obtain ⟨c4, i4, k4⟩ := u_known (C := RX4) (T := TX4) (N := 9) (n := 9) hts inG4 (hts _ kw_290)
  obtain ⟨c5, i5, k5⟩ := u_known (C := RX5) (T := TX5) (N := 5) (n := 5) hts inG5 (hts _ kw_36)
  obtain ⟨c6, i6, k6⟩ := u_known (C := RX6) (T := TX6) (N := 13) (n := 13) hts inG6 (hts _ kw_94)
  obtain ⟨c7, i7, k7⟩ := u_known (C := RX7) (T := TX7) (N := 2) (n := 2) hts inG7 (hts _ kw_102)
  obtain ⟨c8, i8, k8⟩ := u_known (C := RX8) (T := TX8) (N := 2) (n := 2) hts inG8 (hts _ kw_19)
  obtain ⟨c9, i9, k9⟩ := u_known (C := RX9) (T := TX9) (N := 52) (n := 52) hts inG9 (hts _ kw_748)
  obtain ⟨a0, p0, q0⟩ := xarr (hts _ kw_235)
  obtain ⟨a1, p1, q1⟩ := xarr (hts _ kw_114)
  obtain ⟨a2, p2, q2⟩ := xarr (hts _ kw_115)
  obtain ⟨a3, p3, q3⟩ := xarr (hts _ kw_911)
  have o0 : va_AO RX0 s := ht _ kw_33
  obtain ⟨a4, p4, q4⟩ := xarrO o0
  have o1 : va_AO RX1 s := ht _ kw_100
  obtain ⟨a5, p5, q5⟩ := xarrO o1
  have o2 : va_AO RX2 s := ht _ kw_117
  obtain ⟨a6, p6, q6⟩ := xarrO o2
  have o4 : va_AO RX4 s := ht _ kw_42
  obtain ⟨a7, p7, q7⟩ := xarrO o4
  have o5 : va_AO RX5 s := ht _ kw_35
  obtain ⟨a8, p8, q8⟩ := xarrO o5
  refine ⟨((fun k => match k with | 0 => c0 | 1 => c1 | 2 => c2 | 3 => c3 | 4 => c4 | 5 => c5 | 6 => c6 | 7 => c7 | 8 => c8 | _ => c9, fun k => match k with | 0 => i0 | 1 => i1 | 2 => i2 | 3 => i3 | 4 => i4 | 5 => i5 | 6 => i6 | 7 => i7 | 8 => i8 | _ => i9), fun t => match t with | 0 => a0 | 1 => a1 | 2 => a2 | 3 => a3 | 4 => a4 | 5 => a5 | 6 => a6 | 7 => a7 | _ => a8), ⟨?_, ?_⟩, ?_, ?_, ?_⟩
  · intro k q hq
    match k, hq with
    | 0, hq => cases hq; exact k0
    | 1, hq => cases hq; exact k1
    | 2, hq => cases hq; exact k2
    | 3, hq => cases hq; exact k3
    | 4, hq => cases hq; exact k4
    | 5, hq => cases hq; exact k5
    | 6, hq => cases hq; exact k6
    | 7, hq => cases hq; exact k7
    | 8, hq => cases hq; exact k8
    | 9, hq => cases hq; exact k9
    | k + 10, hq => simp [vwCl] at hq
  · intro k q hq
    match k, hq with
    | 0, hq => cases hq; exact ⟨p0, q0⟩
    | 1, hq => cases hq; exact ⟨p1, q1⟩
    | 2, hq => cases hq; exact ⟨p2, q2⟩
    | 3, hq => cases hq; exact ⟨p3, q3⟩
    | 4, hq => cases hq; exact ⟨p4, q4⟩
    | 5, hq => cases hq; exact ⟨p5, q5⟩
    | 6, hq => cases hq; exact ⟨p6, q6⟩
    | 7, hq => cases hq; exact ⟨p7, q7⟩
    | 8, hq => cases hq; exact ⟨p8, q8⟩
    | k + 9, hq => simp [xTys] at hq
  · intro q hq
    simp only [xNF, List.mem_cons, List.not_mem_nil, or_false] at hq
    rcases hq with rfl | rfl | rfl | rfl | rfl | rfl | rfl | rfl | rfl | rfl | rfl
    · exact va_Nw.of (A := args) rfl (ht _ kw_72)
    · exact va_Nw.of (A := args) rfl (ht _ kw_74)
    · exact va_Nw.of (A := args) rfl (ht _ kw_76)
    · exact va_Nw.of (A := args) rfl (ht _ kw_77)
    · exact va_Nw.of (A := args) rfl (ht _ kw_78)
    · exact va_Nw.of (A := args) rfl (ht _ kw_121)
    · exact va_Nw.of (A := args) rfl (ht _ kw_123)
    · exact va_Nw.of (A := args) rfl (ht _ kw_129)
    · exact va_Nw.of (A := args) rfl (ht _ kw_131)
    · exact va_Nw.of (A := args) rfl (ht _ kw_133)
    · exact va_Nw.of (A := args) rfl (ht _ kw_136)
  · intro q hq
    simp only [xNM, List.mem_cons, List.not_mem_nil, or_false] at hq
    rcases hq with rfl | rfl | rfl | rfl | rfl
    · exact va_Nw.of (A := args) rfl (ht _ kw_103)
    · exact va_Nw.of (A := args) rfl (ht _ kw_337)
    · exact va_Nw.of (A := args) rfl (ht _ kw_500)
    · exact va_Nw.of (A := args) rfl (ht _ kw_510)
    · exact va_Nw.of (A := args) rfl (ht _ kw_599)
  · intro C hC
    simp only [xAO, List.mem_cons, List.not_mem_nil, or_false] at hC
    rcases hC with rfl | rfl | rfl | rfl | rfl
    · exact o0
    · exact o1
    · exact o2
    · exact o4
    · exact o5
