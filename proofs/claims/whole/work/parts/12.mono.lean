abbrev XMono (K K' : XK) : Prop := ∀ ls st M bc bs, K ls st M bc bs → K' ls st M bc bs
theorem xMet.mono {l : Launch} {D : DX} {b0 d mc ms : Nat} {y : MethodName} {bytes : ByteArray} {maxL : Nat} {ret : Option FieldType} {av : List XV} {M : XM} {post post' : XM → Option XV → Prop} (h : xMet l D b0 d mc ms y bytes maxL ret av M post) (hp : ∀ M' v, post M' v → post' M' v) : xMet l D b0 d mc ms y bytes maxL ret av M post' := by
  intro r0 p e ha hc hk s m args below hf happ hP hK
  obtain ⟨n, o, h1, h2, h3, h4, h5⟩ := h r0 p e ha hc hk s m args below hf happ hP hK
  obtain ⟨M', r', v, q1, q2, q3⟩ := h4
  exact ⟨n, o, h1, h2, h3, ⟨M', r', v, q1, hp M' v q2, q3⟩, h5⟩
theorem m_ci {v : Int32} {K K' : XK} (hK : XMono K K') : XMono (i_ci v K) (i_ci v K') := by
  intro ls st M bc bs h
  unfold i_ci at h ⊢
  repeat (first | exact hK _ _ _ _ _ h | (obtain ⟨z, h⟩ := h; refine ⟨z, ?_⟩))
theorem m_cl {v : Int64} {K K' : XK} (hK : XMono K K') : XMono (i_cl v K) (i_cl v K') := by
  intro ls st M bc bs h
  unfold i_cl at h ⊢
  repeat (first | exact hK _ _ _ _ _ h | (obtain ⟨z, h⟩ := h; refine ⟨z, ?_⟩))
theorem m_cd {v : UInt64} {K K' : XK} (hK : XMono K K') : XMono (i_cd v K) (i_cd v K') := by
  intro ls st M bc bs h
  unfold i_cd at h ⊢
  repeat (first | exact hK _ _ _ _ _ h | (obtain ⟨z, h⟩ := h; refine ⟨z, ?_⟩))
theorem m_null {k : Nat} {K K' : XK} (hK : XMono K K') : XMono (i_null k K) (i_null k K') := by
  intro ls st M bc bs h
  unfold i_null at h ⊢
  repeat (first | exact hK _ _ _ _ _ h | (obtain ⟨z, h⟩ := h; refine ⟨z, ?_⟩))
theorem m_iadd  {K K' : XK} (hK : XMono K K') : XMono (i_iadd  K) (i_iadd  K') := by
  intro ls st M bc bs h
  unfold i_iadd at h ⊢
  split at h
  all_goals first
      | exact h.elim
      | (repeat (first | exact hK _ _ _ _ _ h | (obtain ⟨z, h⟩ := h; refine ⟨z, ?_⟩)))
theorem m_isub  {K K' : XK} (hK : XMono K K') : XMono (i_isub  K) (i_isub  K') := by
  intro ls st M bc bs h
  unfold i_isub at h ⊢
  split at h
  all_goals first
      | exact h.elim
      | (repeat (first | exact hK _ _ _ _ _ h | (obtain ⟨z, h⟩ := h; refine ⟨z, ?_⟩)))
theorem m_imul  {K K' : XK} (hK : XMono K K') : XMono (i_imul  K) (i_imul  K') := by
  intro ls st M bc bs h
  unfold i_imul at h ⊢
  split at h
  all_goals first
      | exact h.elim
      | (repeat (first | exact hK _ _ _ _ _ h | (obtain ⟨z, h⟩ := h; refine ⟨z, ?_⟩)))
theorem m_iand  {K K' : XK} (hK : XMono K K') : XMono (i_iand  K) (i_iand  K') := by
  intro ls st M bc bs h
  unfold i_iand at h ⊢
  split at h
  all_goals first
      | exact h.elim
      | (repeat (first | exact hK _ _ _ _ _ h | (obtain ⟨z, h⟩ := h; refine ⟨z, ?_⟩)))
theorem m_ishr  {K K' : XK} (hK : XMono K K') : XMono (i_ishr  K) (i_ishr  K') := by
  intro ls st M bc bs h
  unfold i_ishr at h ⊢
  split at h
  all_goals first
      | exact h.elim
      | (repeat (first | exact hK _ _ _ _ _ h | (obtain ⟨z, h⟩ := h; refine ⟨z, ?_⟩)))
theorem m_idiv  {K K' : XK} (hK : XMono K K') : XMono (i_idiv  K) (i_idiv  K') := by
  intro ls st M bc bs h
  unfold i_idiv at h ⊢
  split at h
  all_goals first
      | exact h.elim
      | (repeat (first | exact hK _ _ _ _ _ h | (obtain ⟨z, h⟩ := h; refine ⟨z, ?_⟩)))
theorem m_irem  {K K' : XK} (hK : XMono K K') : XMono (i_irem  K) (i_irem  K') := by
  intro ls st M bc bs h
  unfold i_irem at h ⊢
  split at h
  all_goals first
      | exact h.elim
      | (repeat (first | exact hK _ _ _ _ _ h | (obtain ⟨z, h⟩ := h; refine ⟨z, ?_⟩)))
theorem m_ineg  {K K' : XK} (hK : XMono K K') : XMono (i_ineg  K) (i_ineg  K') := by
  intro ls st M bc bs h
  unfold i_ineg at h ⊢
  split at h
  all_goals first
      | exact h.elim
      | (repeat (first | exact hK _ _ _ _ _ h | (obtain ⟨z, h⟩ := h; refine ⟨z, ?_⟩)))
theorem m_ladd  {K K' : XK} (hK : XMono K K') : XMono (i_ladd  K) (i_ladd  K') := by
  intro ls st M bc bs h
  unfold i_ladd at h ⊢
  split at h
  all_goals first
      | exact h.elim
      | (repeat (first | exact hK _ _ _ _ _ h | (obtain ⟨z, h⟩ := h; refine ⟨z, ?_⟩)))
theorem m_lsub  {K K' : XK} (hK : XMono K K') : XMono (i_lsub  K) (i_lsub  K') := by
  intro ls st M bc bs h
  unfold i_lsub at h ⊢
  split at h
  all_goals first
      | exact h.elim
      | (repeat (first | exact hK _ _ _ _ _ h | (obtain ⟨z, h⟩ := h; refine ⟨z, ?_⟩)))
theorem m_lor  {K K' : XK} (hK : XMono K K') : XMono (i_lor  K) (i_lor  K') := by
  intro ls st M bc bs h
  unfold i_lor at h ⊢
  split at h
  all_goals first
      | exact h.elim
      | (repeat (first | exact hK _ _ _ _ _ h | (obtain ⟨z, h⟩ := h; refine ⟨z, ?_⟩)))
theorem m_land  {K K' : XK} (hK : XMono K K') : XMono (i_land  K) (i_land  K') := by
  intro ls st M bc bs h
  unfold i_land at h ⊢
  split at h
  all_goals first
      | exact h.elim
      | (repeat (first | exact hK _ _ _ _ _ h | (obtain ⟨z, h⟩ := h; refine ⟨z, ?_⟩)))
theorem m_ldiv  {K K' : XK} (hK : XMono K K') : XMono (i_ldiv  K) (i_ldiv  K') := by
  intro ls st M bc bs h
  unfold i_ldiv at h ⊢
  split at h
  all_goals first
      | exact h.elim
      | (repeat (first | exact hK _ _ _ _ _ h | (obtain ⟨z, h⟩ := h; refine ⟨z, ?_⟩)))
theorem m_lshl  {K K' : XK} (hK : XMono K K') : XMono (i_lshl  K) (i_lshl  K') := by
  intro ls st M bc bs h
  unfold i_lshl at h ⊢
  split at h
  all_goals first
      | exact h.elim
      | (repeat (first | exact hK _ _ _ _ _ h | (obtain ⟨z, h⟩ := h; refine ⟨z, ?_⟩)))
theorem m_lshr  {K K' : XK} (hK : XMono K K') : XMono (i_lshr  K) (i_lshr  K') := by
  intro ls st M bc bs h
  unfold i_lshr at h ⊢
  split at h
  all_goals first
      | exact h.elim
      | (repeat (first | exact hK _ _ _ _ _ h | (obtain ⟨z, h⟩ := h; refine ⟨z, ?_⟩)))
theorem m_i2l  {K K' : XK} (hK : XMono K K') : XMono (i_i2l  K) (i_i2l  K') := by
  intro ls st M bc bs h
  unfold i_i2l at h ⊢
  split at h
  all_goals first
      | exact h.elim
      | (repeat (first | exact hK _ _ _ _ _ h | (obtain ⟨z, h⟩ := h; refine ⟨z, ?_⟩)))
theorem m_l2i  {K K' : XK} (hK : XMono K K') : XMono (i_l2i  K) (i_l2i  K') := by
  intro ls st M bc bs h
  unfold i_l2i at h ⊢
  split at h
  all_goals first
      | exact h.elim
      | (repeat (first | exact hK _ _ _ _ _ h | (obtain ⟨z, h⟩ := h; refine ⟨z, ?_⟩)))
theorem m_i2b  {K K' : XK} (hK : XMono K K') : XMono (i_i2b  K) (i_i2b  K') := by
  intro ls st M bc bs h
  unfold i_i2b at h ⊢
  split at h
  all_goals first
      | exact h.elim
      | (repeat (first | exact hK _ _ _ _ _ h | (obtain ⟨z, h⟩ := h; refine ⟨z, ?_⟩)))
theorem m_i2d  {K K' : XK} (hK : XMono K K') : XMono (i_i2d  K) (i_i2d  K') := by
  intro ls st M bc bs h
  unfold i_i2d at h ⊢
  split at h
  all_goals first
      | exact h.elim
      | (repeat (first | exact hK _ _ _ _ _ h | (obtain ⟨z, h⟩ := h; refine ⟨z, ?_⟩)))
theorem m_l2d  {K K' : XK} (hK : XMono K K') : XMono (i_l2d  K) (i_l2d  K') := by
  intro ls st M bc bs h
  unfold i_l2d at h ⊢
  split at h
  all_goals first
      | exact h.elim
      | (repeat (first | exact hK _ _ _ _ _ h | (obtain ⟨z, h⟩ := h; refine ⟨z, ?_⟩)))
theorem m_d2l  {K K' : XK} (hK : XMono K K') : XMono (i_d2l  K) (i_d2l  K') := by
  intro ls st M bc bs h
  unfold i_d2l at h ⊢
  split at h
  all_goals first
      | exact h.elim
      | (repeat (first | exact hK _ _ _ _ _ h | (obtain ⟨z, h⟩ := h; refine ⟨z, ?_⟩)))
theorem m_dneg  {K K' : XK} (hK : XMono K K') : XMono (i_dneg  K) (i_dneg  K') := by
  intro ls st M bc bs h
  unfold i_dneg at h ⊢
  split at h
  all_goals first
      | exact h.elim
      | (repeat (first | exact hK _ _ _ _ _ h | (obtain ⟨z, h⟩ := h; refine ⟨z, ?_⟩)))
theorem m_dadd  {K K' : XK} (hK : XMono K K') : XMono (i_dadd  K) (i_dadd  K') := by
  intro ls st M bc bs h
  unfold i_dadd at h ⊢
  split at h
  all_goals first
      | exact h.elim
      | (repeat (first | exact hK _ _ _ _ _ h | (obtain ⟨z, h⟩ := h; refine ⟨z, ?_⟩)))
theorem m_dmul  {K K' : XK} (hK : XMono K K') : XMono (i_dmul  K) (i_dmul  K') := by
  intro ls st M bc bs h
  unfold i_dmul at h ⊢
  split at h
  all_goals first
      | exact h.elim
      | (repeat (first | exact hK _ _ _ _ _ h | (obtain ⟨z, h⟩ := h; refine ⟨z, ?_⟩)))
theorem m_ddiv  {K K' : XK} (hK : XMono K K') : XMono (i_ddiv  K) (i_ddiv  K') := by
  intro ls st M bc bs h
  unfold i_ddiv at h ⊢
  split at h
  all_goals first
      | exact h.elim
      | (repeat (first | exact hK _ _ _ _ _ h | (obtain ⟨z, h⟩ := h; refine ⟨z, ?_⟩)))
theorem m_lcmp  {K K' : XK} (hK : XMono K K') : XMono (i_lcmp  K) (i_lcmp  K') := by
  intro ls st M bc bs h
  unfold i_lcmp at h ⊢
  split at h
  all_goals first
      | exact h.elim
      | (repeat (first | exact hK _ _ _ _ _ h | (obtain ⟨z, h⟩ := h; refine ⟨z, ?_⟩)))
theorem m_dcmpl  {K K' : XK} (hK : XMono K K') : XMono (i_dcmpl  K) (i_dcmpl  K') := by
  intro ls st M bc bs h
  unfold i_dcmpl at h ⊢
  split at h
  all_goals first
      | exact h.elim
      | (repeat (first | exact hK _ _ _ _ _ h | (obtain ⟨z, h⟩ := h; refine ⟨z, ?_⟩)))
theorem m_dcmpg  {K K' : XK} (hK : XMono K K') : XMono (i_dcmpg  K) (i_dcmpg  K') := by
  intro ls st M bc bs h
  unfold i_dcmpg at h ⊢
  split at h
  all_goals first
      | exact h.elim
      | (repeat (first | exact hK _ _ _ _ _ h | (obtain ⟨z, h⟩ := h; refine ⟨z, ?_⟩)))
theorem m_dup  {K K' : XK} (hK : XMono K K') : XMono (i_dup  K) (i_dup  K') := by
  intro ls st M bc bs h
  unfold i_dup at h ⊢
  split at h
  all_goals first
      | exact h.elim
      | (repeat (first | exact hK _ _ _ _ _ h | (obtain ⟨z, h⟩ := h; refine ⟨z, ?_⟩)))
theorem m_dup2  {K K' : XK} (hK : XMono K K') : XMono (i_dup2  K) (i_dup2  K') := by
  intro ls st M bc bs h
  unfold i_dup2 at h ⊢
  split at h
  all_goals first
      | exact h.elim
      | (repeat (first | exact hK _ _ _ _ _ h | (obtain ⟨z, h⟩ := h; refine ⟨z, ?_⟩)))
theorem m_pop  {K K' : XK} (hK : XMono K K') : XMono (i_pop  K) (i_pop  K') := by
  intro ls st M bc bs h
  unfold i_pop at h ⊢
  split at h
  all_goals first
      | exact h.elim
      | (repeat (first | exact hK _ _ _ _ _ h | (obtain ⟨z, h⟩ := h; refine ⟨z, ?_⟩)))
theorem m_ild {i : Nat} {K K' : XK} (hK : XMono K K') : XMono (i_ild i K) (i_ild i K') := by
  intro ls st M bc bs h
  unfold i_ild at h ⊢
  split at h
  all_goals first
      | exact h.elim
      | (repeat (first | exact hK _ _ _ _ _ h | (obtain ⟨z, h⟩ := h; refine ⟨z, ?_⟩)))
theorem m_lld {i : Nat} {K K' : XK} (hK : XMono K K') : XMono (i_lld i K) (i_lld i K') := by
  intro ls st M bc bs h
  unfold i_lld at h ⊢
  split at h
  all_goals first
      | exact h.elim
      | (repeat (first | exact hK _ _ _ _ _ h | (obtain ⟨z, h⟩ := h; refine ⟨z, ?_⟩)))
theorem m_dld {i : Nat} {K K' : XK} (hK : XMono K K') : XMono (i_dld i K) (i_dld i K') := by
  intro ls st M bc bs h
  unfold i_dld at h ⊢
  split at h
  all_goals first
      | exact h.elim
      | (repeat (first | exact hK _ _ _ _ _ h | (obtain ⟨z, h⟩ := h; refine ⟨z, ?_⟩)))
theorem m_ald {i : Nat} {K K' : XK} (hK : XMono K K') : XMono (i_ald i K) (i_ald i K') := by
  intro ls st M bc bs h
  unfold i_ald at h ⊢
  split at h
  all_goals first
      | exact h.elim
      | (repeat (first | exact hK _ _ _ _ _ h | (obtain ⟨z, h⟩ := h; refine ⟨z, ?_⟩)))
theorem m_ist {i : Nat} {K K' : XK} (hK : XMono K K') : XMono (i_ist i K) (i_ist i K') := by
  intro ls st M bc bs h
  unfold i_ist at h ⊢
  split at h
  all_goals first
      | exact h.elim
      | (repeat (first | exact hK _ _ _ _ _ h | (obtain ⟨z, h⟩ := h; refine ⟨z, ?_⟩)))
theorem m_lst {i : Nat} {K K' : XK} (hK : XMono K K') : XMono (i_lst i K) (i_lst i K') := by
  intro ls st M bc bs h
  unfold i_lst at h ⊢
  split at h
  all_goals first
      | exact h.elim
      | (repeat (first | exact hK _ _ _ _ _ h | (obtain ⟨z, h⟩ := h; refine ⟨z, ?_⟩)))
theorem m_dst {i : Nat} {K K' : XK} (hK : XMono K K') : XMono (i_dst i K) (i_dst i K') := by
  intro ls st M bc bs h
  unfold i_dst at h ⊢
  split at h
  all_goals first
      | exact h.elim
      | (repeat (first | exact hK _ _ _ _ _ h | (obtain ⟨z, h⟩ := h; refine ⟨z, ?_⟩)))
theorem m_ast {i : Nat} {K K' : XK} (hK : XMono K K') : XMono (i_ast i K) (i_ast i K') := by
  intro ls st M bc bs h
  unfold i_ast at h ⊢
  split at h
  all_goals first
      | exact h.elim
      | (repeat (first | exact hK _ _ _ _ _ h | (obtain ⟨z, h⟩ := h; refine ⟨z, ?_⟩)))
theorem m_iinc {i : Nat} {n : Int32} {K K' : XK} (hK : XMono K K') : XMono (i_iinc i n K) (i_iinc i n K') := by
  intro ls st M bc bs h
  unfold i_iinc at h ⊢
  split at h
  all_goals first
      | exact h.elim
      | (repeat (first | exact hK _ _ _ _ _ h | (obtain ⟨z, h⟩ := h; refine ⟨z, ?_⟩)))
theorem m_if_eq  {K K' F F' : XK} (hT : XMono K K') (hF : XMono F F') : XMono (i_if_eq  K F) (i_if_eq  K' F') := by
  intro ls st M bc bs h
  unfold i_if_eq at h ⊢
  split at h
  all_goals first
      | exact h.elim
      | (repeat (first | exact ⟨fun z => hT _ _ _ _ _ (h.1 z), fun z => hF _ _ _ _ _ (h.2 z)⟩ | (obtain ⟨z, h⟩ := h; refine ⟨z, ?_⟩)))
theorem m_icmp_eq  {K K' F F' : XK} (hT : XMono K K') (hF : XMono F F') : XMono (i_icmp_eq  K F) (i_icmp_eq  K' F') := by
  intro ls st M bc bs h
  unfold i_icmp_eq at h ⊢
  split at h
  all_goals first
      | exact h.elim
      | (repeat (first | exact ⟨fun z => hT _ _ _ _ _ (h.1 z), fun z => hF _ _ _ _ _ (h.2 z)⟩ | (obtain ⟨z, h⟩ := h; refine ⟨z, ?_⟩)))
theorem m_if_lt  {K K' F F' : XK} (hT : XMono K K') (hF : XMono F F') : XMono (i_if_lt  K F) (i_if_lt  K' F') := by
  intro ls st M bc bs h
  unfold i_if_lt at h ⊢
  split at h
  all_goals first
      | exact h.elim
      | (repeat (first | exact ⟨fun z => hT _ _ _ _ _ (h.1 z), fun z => hF _ _ _ _ _ (h.2 z)⟩ | (obtain ⟨z, h⟩ := h; refine ⟨z, ?_⟩)))
theorem m_icmp_lt  {K K' F F' : XK} (hT : XMono K K') (hF : XMono F F') : XMono (i_icmp_lt  K F) (i_icmp_lt  K' F') := by
  intro ls st M bc bs h
  unfold i_icmp_lt at h ⊢
  split at h
  all_goals first
      | exact h.elim
      | (repeat (first | exact ⟨fun z => hT _ _ _ _ _ (h.1 z), fun z => hF _ _ _ _ _ (h.2 z)⟩ | (obtain ⟨z, h⟩ := h; refine ⟨z, ?_⟩)))
theorem m_if_ge  {K K' F F' : XK} (hT : XMono K K') (hF : XMono F F') : XMono (i_if_ge  K F) (i_if_ge  K' F') := by
  intro ls st M bc bs h
  unfold i_if_ge at h ⊢
  split at h
  all_goals first
      | exact h.elim
      | (repeat (first | exact ⟨fun z => hT _ _ _ _ _ (h.1 z), fun z => hF _ _ _ _ _ (h.2 z)⟩ | (obtain ⟨z, h⟩ := h; refine ⟨z, ?_⟩)))
theorem m_icmp_ge  {K K' F F' : XK} (hT : XMono K K') (hF : XMono F F') : XMono (i_icmp_ge  K F) (i_icmp_ge  K' F') := by
  intro ls st M bc bs h
  unfold i_icmp_ge at h ⊢
  split at h
  all_goals first
      | exact h.elim
      | (repeat (first | exact ⟨fun z => hT _ _ _ _ _ (h.1 z), fun z => hF _ _ _ _ _ (h.2 z)⟩ | (obtain ⟨z, h⟩ := h; refine ⟨z, ?_⟩)))
theorem m_if_gt  {K K' F F' : XK} (hT : XMono K K') (hF : XMono F F') : XMono (i_if_gt  K F) (i_if_gt  K' F') := by
  intro ls st M bc bs h
  unfold i_if_gt at h ⊢
  split at h
  all_goals first
      | exact h.elim
      | (repeat (first | exact ⟨fun z => hT _ _ _ _ _ (h.1 z), fun z => hF _ _ _ _ _ (h.2 z)⟩ | (obtain ⟨z, h⟩ := h; refine ⟨z, ?_⟩)))
theorem m_icmp_gt  {K K' F F' : XK} (hT : XMono K K') (hF : XMono F F') : XMono (i_icmp_gt  K F) (i_icmp_gt  K' F') := by
  intro ls st M bc bs h
  unfold i_icmp_gt at h ⊢
  split at h
  all_goals first
      | exact h.elim
      | (repeat (first | exact ⟨fun z => hT _ _ _ _ _ (h.1 z), fun z => hF _ _ _ _ _ (h.2 z)⟩ | (obtain ⟨z, h⟩ := h; refine ⟨z, ?_⟩)))
theorem m_if_le  {K K' F F' : XK} (hT : XMono K K') (hF : XMono F F') : XMono (i_if_le  K F) (i_if_le  K' F') := by
  intro ls st M bc bs h
  unfold i_if_le at h ⊢
  split at h
  all_goals first
      | exact h.elim
      | (repeat (first | exact ⟨fun z => hT _ _ _ _ _ (h.1 z), fun z => hF _ _ _ _ _ (h.2 z)⟩ | (obtain ⟨z, h⟩ := h; refine ⟨z, ?_⟩)))
theorem m_icmp_le  {K K' F F' : XK} (hT : XMono K K') (hF : XMono F F') : XMono (i_icmp_le  K F) (i_icmp_le  K' F') := by
  intro ls st M bc bs h
  unfold i_icmp_le at h ⊢
  split at h
  all_goals first
      | exact h.elim
      | (repeat (first | exact ⟨fun z => hT _ _ _ _ _ (h.1 z), fun z => hF _ _ _ _ _ (h.2 z)⟩ | (obtain ⟨z, h⟩ := h; refine ⟨z, ?_⟩)))
theorem m_if_ne  {K K' F F' : XK} (hT : XMono K K') (hF : XMono F F') : XMono (i_if_ne  K F) (i_if_ne  K' F') := by
  intro ls st M bc bs h
  unfold i_if_ne at h ⊢
  split at h
  all_goals first
      | exact h.elim
      | (repeat (first | exact ⟨fun z => hT _ _ _ _ _ (h.1 z), fun z => hF _ _ _ _ _ (h.2 z)⟩ | (obtain ⟨z, h⟩ := h; refine ⟨z, ?_⟩)))
theorem m_icmp_ne  {K K' F F' : XK} (hT : XMono K K') (hF : XMono F F') : XMono (i_icmp_ne  K F) (i_icmp_ne  K' F') := by
  intro ls st M bc bs h
  unfold i_icmp_ne at h ⊢
  split at h
  all_goals first
      | exact h.elim
      | (repeat (first | exact ⟨fun z => hT _ _ _ _ _ (h.1 z), fun z => hF _ _ _ _ _ (h.2 z)⟩ | (obtain ⟨z, h⟩ := h; refine ⟨z, ?_⟩)))
theorem m_ifnull  {K K' F F' : XK} (hT : XMono K K') (hF : XMono F F') : XMono (i_ifnull  K F) (i_ifnull  K' F') := by
  intro ls st M bc bs h
  unfold i_ifnull at h ⊢
  split at h
  all_goals first
      | exact h.elim
      | (repeat (first | exact ⟨fun z => hT _ _ _ _ _ (h.1 z), fun z => hF _ _ _ _ _ (h.2 z)⟩ | (obtain ⟨z, h⟩ := h; refine ⟨z, ?_⟩)))
theorem m_ifnonnull  {K K' F F' : XK} (hT : XMono K K') (hF : XMono F F') : XMono (i_ifnonnull  K F) (i_ifnonnull  K' F') := by
  intro ls st M bc bs h
  unfold i_ifnonnull at h ⊢
  split at h
  all_goals first
      | exact h.elim
      | (repeat (first | exact ⟨fun z => hT _ _ _ _ _ (h.1 z), fun z => hF _ _ _ _ _ (h.2 z)⟩ | (obtain ⟨z, h⟩ := h; refine ⟨z, ?_⟩)))
theorem m_acmp_ne  {K K' F F' : XK} (hT : XMono K K') (hF : XMono F F') : XMono (i_acmp_ne  K F) (i_acmp_ne  K' F') := by
  intro ls st M bc bs h
  unfold i_acmp_ne at h ⊢
  split at h
  all_goals first
      | exact h.elim
      | (repeat (first | exact ⟨fun z => hT _ _ _ _ _ (h.1 z), fun z => hF _ _ _ _ _ (h.2 z)⟩ | (obtain ⟨z, h⟩ := h; refine ⟨z, ?_⟩)))
theorem m_getI {k f : Nat} {K K' : XK} (hK : XMono K K') : XMono (i_getI k f K) (i_getI k f K') := by
  intro ls st M bc bs h
  unfold i_getI at h ⊢
  split at h
  all_goals first
      | exact h.elim
      | (repeat (first | exact hK _ _ _ _ _ h | (obtain ⟨z, h⟩ := h; refine ⟨z, ?_⟩)))
theorem m_getL {k f : Nat} {K K' : XK} (hK : XMono K K') : XMono (i_getL k f K) (i_getL k f K') := by
  intro ls st M bc bs h
  unfold i_getL at h ⊢
  split at h
  all_goals first
      | exact h.elim
      | (repeat (first | exact hK _ _ _ _ _ h | (obtain ⟨z, h⟩ := h; refine ⟨z, ?_⟩)))
theorem m_getR {k f tk : Nat} {K K' : XK} (hK : XMono K K') : XMono (i_getR k f tk K) (i_getR k f tk K') := by
  intro ls st M bc bs h
  unfold i_getR at h ⊢
  split at h
  all_goals first
      | exact h.elim
      | (repeat (first | exact hK _ _ _ _ _ h | (obtain ⟨z, h⟩ := h; refine ⟨z, ?_⟩)))
theorem m_putI {k f : Nat} {K K' : XK} (hK : XMono K K') : XMono (i_putI k f K) (i_putI k f K') := by
  intro ls st M bc bs h
  unfold i_putI at h ⊢
  split at h
  all_goals first
      | exact h.elim
      | (repeat (first | exact hK _ _ _ _ _ h | (obtain ⟨z, h⟩ := h; refine ⟨z, ?_⟩)))
theorem m_putZ {k f : Nat} {K K' : XK} (hK : XMono K K') : XMono (i_putZ k f K) (i_putZ k f K') := by
  intro ls st M bc bs h
  unfold i_putZ at h ⊢
  split at h
  all_goals first
      | exact h.elim
      | (repeat (first | exact hK _ _ _ _ _ h | (obtain ⟨z, h⟩ := h; refine ⟨z, ?_⟩)))
theorem m_putL {k f : Nat} {K K' : XK} (hK : XMono K K') : XMono (i_putL k f K) (i_putL k f K') := by
  intro ls st M bc bs h
  unfold i_putL at h ⊢
  split at h
  all_goals first
      | exact h.elim
      | (repeat (first | exact hK _ _ _ _ _ h | (obtain ⟨z, h⟩ := h; refine ⟨z, ?_⟩)))
theorem m_putR {k f tk : Nat} {K K' : XK} (hK : XMono K K') : XMono (i_putR k f tk K) (i_putR k f tk K') := by
  intro ls st M bc bs h
  unfold i_putR at h ⊢
  split at h
  all_goals first
      | exact h.elim
      | (repeat (first | exact hK _ _ _ _ _ h | (obtain ⟨z, h⟩ := h; refine ⟨z, ?_⟩)))
theorem m_iald {k n f : Nat} {K K' : XK} (hK : XMono K K') : XMono (i_iald k n f K) (i_iald k n f K') := by
  intro ls st M bc bs h
  unfold i_iald at h ⊢
  split at h
  all_goals first
      | exact h.elim
      | (repeat (first | exact hK _ _ _ _ _ h | (obtain ⟨z, h⟩ := h; refine ⟨z, ?_⟩)))
theorem m_iast {k n f : Nat} {K K' : XK} (hK : XMono K K') : XMono (i_iast k n f K) (i_iast k n f K') := by
  intro ls st M bc bs h
  unfold i_iast at h ⊢
  split at h
  all_goals first
      | exact h.elim
      | (repeat (first | exact hK _ _ _ _ _ h | (obtain ⟨z, h⟩ := h; refine ⟨z, ?_⟩)))
theorem m_zald {k n f : Nat} {K K' : XK} (hK : XMono K K') : XMono (i_zald k n f K) (i_zald k n f K') := by
  intro ls st M bc bs h
  unfold i_zald at h ⊢
  split at h
  all_goals first
      | exact h.elim
      | (repeat (first | exact hK _ _ _ _ _ h | (obtain ⟨z, h⟩ := h; refine ⟨z, ?_⟩)))
theorem m_zast {k n f : Nat} {K K' : XK} (hK : XMono K K') : XMono (i_zast k n f K) (i_zast k n f K') := by
  intro ls st M bc bs h
  unfold i_zast at h ⊢
  split at h
  all_goals first
      | exact h.elim
      | (repeat (first | exact hK _ _ _ _ _ h | (obtain ⟨z, h⟩ := h; refine ⟨z, ?_⟩)))
theorem m_lald {k n f : Nat} {K K' : XK} (hK : XMono K K') : XMono (i_lald k n f K) (i_lald k n f K') := by
  intro ls st M bc bs h
  unfold i_lald at h ⊢
  split at h
  all_goals first
      | exact h.elim
      | (repeat (first | exact hK _ _ _ _ _ h | (obtain ⟨z, h⟩ := h; refine ⟨z, ?_⟩)))
theorem m_last {k n f : Nat} {K K' : XK} (hK : XMono K K') : XMono (i_last k n f K) (i_last k n f K') := by
  intro ls st M bc bs h
  unfold i_last at h ⊢
  split at h
  all_goals first
      | exact h.elim
      | (repeat (first | exact hK _ _ _ _ _ h | (obtain ⟨z, h⟩ := h; refine ⟨z, ?_⟩)))
theorem m_dald {k n f : Nat} {K K' : XK} (hK : XMono K K') : XMono (i_dald k n f K) (i_dald k n f K') := by
  intro ls st M bc bs h
  unfold i_dald at h ⊢
  split at h
  all_goals first
      | exact h.elim
      | (repeat (first | exact hK _ _ _ _ _ h | (obtain ⟨z, h⟩ := h; refine ⟨z, ?_⟩)))
theorem m_dast {k n f : Nat} {K K' : XK} (hK : XMono K K') : XMono (i_dast k n f K) (i_dast k n f K') := by
  intro ls st M bc bs h
  unfold i_dast at h ⊢
  split at h
  all_goals first
      | exact h.elim
      | (repeat (first | exact hK _ _ _ _ _ h | (obtain ⟨z, h⟩ := h; refine ⟨z, ?_⟩)))
theorem m_aald {k n f tk : Nat} {K K' : XK} (hK : XMono K K') : XMono (i_aald k n f tk K) (i_aald k n f tk K') := by
  intro ls st M bc bs h
  unfold i_aald at h ⊢
  split at h
  all_goals first
      | exact h.elim
      | (repeat (first | exact hK _ _ _ _ _ h | (obtain ⟨z, h⟩ := h; refine ⟨z, ?_⟩)))
theorem m_aast {k n f tk : Nat} {K K' : XK} (hK : XMono K K') : XMono (i_aast k n f tk K) (i_aast k n f tk K') := by
  intro ls st M bc bs h
  unfold i_aast at h ⊢
  split at h
  all_goals first
      | exact h.elim
      | (repeat (first | exact hK _ _ _ _ _ h | (obtain ⟨z, h⟩ := h; refine ⟨z, ?_⟩)))
theorem m_new {k N : Nat} {K K' : XK} (hK : XMono K K') : XMono (i_new k N K) (i_new k N K') := by
  intro ls st M bc bs h
  unfold i_new at h ⊢
  repeat (first | exact hK _ _ _ _ _ h | (obtain ⟨z, h⟩ := h; refine ⟨z, ?_⟩))
theorem m_newa {k n : Nat} {K K' : XK} (hK : XMono K K') : XMono (i_newa k n K) (i_newa k n K') := by
  intro ls st M bc bs h
  unfold i_newa at h ⊢
  split at h
  all_goals first
      | exact h.elim
      | (repeat (first | exact hK _ _ _ _ _ h | (obtain ⟨z, h⟩ := h; refine ⟨z, ?_⟩)))
theorem m_newq {k n : Nat} {K K' : XK} (hK : XMono K K') : XMono (i_newq k n K) (i_newq k n K') := by
  intro ls st M bc bs h
  unfold i_newq at h ⊢
  split at h
  all_goals first
      | exact h.elim
      | (repeat (first | exact hK _ _ _ _ _ h | (obtain ⟨z, h⟩ := h; refine ⟨z, ?_⟩)))
theorem m_obj  {K K' : XK} (hK : XMono K K') : XMono (i_obj  K) (i_obj  K') := by
  intro ls st M bc bs h
  unfold i_obj at h ⊢
  split at h
  all_goals first
      | exact h.elim
      | (repeat (first | exact hK _ _ _ _ _ h | (obtain ⟨z, h⟩ := h; refine ⟨z, ?_⟩)))
theorem m_acpL {k1 n1 k2 n2 : Nat} {K K' : XK} (hK : XMono K K') : XMono (i_acpL k1 n1 k2 n2 K) (i_acpL k1 n1 k2 n2 K') := by
  intro ls st M bc bs h
  unfold i_acpL at h ⊢
  split at h
  all_goals first
      | exact h.elim
      | (repeat (first | exact hK _ _ _ _ _ h | (obtain ⟨z, h⟩ := h; refine ⟨z, ?_⟩)))
theorem m_acpD {k1 n1 k2 n2 : Nat} {K K' : XK} (hK : XMono K K') : XMono (i_acpD k1 n1 k2 n2 K) (i_acpD k1 n1 k2 n2 K') := by
  intro ls st M bc bs h
  unfold i_acpD at h ⊢
  split at h
  all_goals first
      | exact h.elim
      | (repeat (first | exact hK _ _ _ _ _ h | (obtain ⟨z, h⟩ := h; refine ⟨z, ?_⟩)))
theorem m_max  {K K' : XK} (hK : XMono K K') : XMono (i_max  K) (i_max  K') := by
  intro ls st M bc bs h
  unfold i_max at h ⊢
  split at h
  all_goals first
      | exact h.elim
      | (repeat (first | exact hK _ _ _ _ _ h | (obtain ⟨z, h⟩ := h; refine ⟨z, ?_⟩)))
theorem m_d2b  {K K' : XK} (hK : XMono K K') : XMono (i_d2b  K) (i_d2b  K') := by
  intro ls st M bc bs h
  unfold i_d2b at h ⊢
  split at h
  all_goals first
      | exact h.elim
      | (repeat (first | exact hK _ _ _ _ _ h | (obtain ⟨z, h⟩ := h; refine ⟨z, ?_⟩)))
theorem m_b2d  {K K' : XK} (hK : XMono K K') : XMono (i_b2d  K) (i_b2d  K') := by
  intro ls st M bc bs h
  unfold i_b2d at h ⊢
  split at h
  all_goals first
      | exact h.elim
      | (repeat (first | exact hK _ _ _ _ _ h | (obtain ⟨z, h⟩ := h; refine ⟨z, ?_⟩)))
theorem m_goto {K K' : XK} (hK : XMono K K') : XMono (i_goto K) (i_goto K') := hK
theorem m_callV {l : Launch} {D : DX} {b0 k n d mc ms : Nat} {y : MethodName} {bytes : ByteArray} {maxL : Nat} {ret : Option FieldType} {K K' : XK} (hK : XMono K K') : XMono (i_callV l D b0 k n d mc ms y bytes maxL ret K) (i_callV l D b0 k n d mc ms y bytes maxL ret K') := by
  intro ls st M bc bs h
  exact ⟨h.1, h.2.1, h.2.2.1, h.2.2.2.1, h.2.2.2.2.mono (fun M' v q => hK _ _ _ _ _ q)⟩
theorem m_callS {l : Launch} {D : DX} {b0 n d mc ms : Nat} {y : MethodName} {bytes : ByteArray} {maxL : Nat} {ret : Option FieldType} {K K' : XK} (hK : XMono K K') : XMono (i_callS l D b0 n d mc ms y bytes maxL ret K) (i_callS l D b0 n d mc ms y bytes maxL ret K') := by
  intro ls st M bc bs h
  exact ⟨h.1, h.2.1, h.2.2.1, h.2.2.2.1, h.2.2.2.2.mono (fun M' v q => hK _ _ _ _ _ q)⟩
theorem xsw_mono {x : Int32} {ls : List (Nat × XV)} {st : List XV} {M : XM} {bc bs : Nat} {Kd Kd' : XK} (hd : XMono Kd Kd') : ∀ (Ks Ks' : List XK) (lo : Int), Ks.length = Ks'.length → (∀ (j : Nat) (K K' : XK), Ks[j]? = some K → Ks'[j]? = some K' → XMono K K') → xsw x ls st M bc bs Kd lo Ks → xsw x ls st M bc bs Kd' lo Ks' := by
  intro Ks
  induction Ks with
  | nil =>
    intro Ks' lo hl hm h
    cases Ks' with
    | nil => exact hd _ _ _ _ _ h
    | cons a t => cases hl
  | cons K0 t ih =>
    intro Ks' lo hl hm h
    cases Ks' with
    | nil => cases hl
    | cons K1 t1 =>
      refine ⟨fun z => hm 0 K0 K1 rfl rfl _ _ _ _ _ (h.1 z), fun z => ih t1 (lo + 1) (by simpa using hl) (fun j K K' hj hj' => hm (j + 1) K K' (by simpa using hj) (by simpa using hj')) (h.2 z)⟩
