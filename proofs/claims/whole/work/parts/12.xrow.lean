set_option maxHeartbeats 1000000 in
theorem x_X5_placeOf_0 {d : Nat} {M : mx_M} {Q : mx_O → mx_M → Prop} (T : mx_Tp M) (a : Nat) (ha : mx_Row a) (v1 : Int32)
    (h : mx_W m_X5_placeOf d 2 [.ref a, .int v1, .int 0] [] M Q) :
    mx_W m_X5_placeOf d 0 [.ref a, .int v1, .retAddr 0] [] M Q := by
  refine mx_iconst (v := 0) (mx_da t_X5_placeOf 0 rfl) rfl rfl ?_
  refine mx_istore_n 2 [.ref a, .int v1, .int 0] (mx_da t_X5_placeOf 1 rfl) rfl rfl (by decide) rfl ?_
  exact h
set_option maxHeartbeats 1000000 in
theorem x_X5_placeOf_2 {d : Nat} {M : mx_M} {Q : mx_O → mx_M → Prop} (T : mx_Tp M) (a : Nat) (ha : mx_Row a) (v1 : Int32) (v2 : Int32)
    (h : (((mx_I M a 1) ≤ v2 → Q (.inl (some (.int (-1)))) M) ∧ (¬ (mx_I M a 1) ≤ v2 → (vp_in v2 10 ∧ ((¬ (mx_I M (a + 1) v2.toNatClampNeg) = v1 → mx_W m_X5_placeOf d 2 [.ref a, .int v1, .int (v2 + 1)] [] M Q) ∧ ((mx_I M (a + 1) v2.toNatClampNeg) = v1 → Q (.inl (some (.int v2))) M)))))) :
    mx_W m_X5_placeOf d 2 [.ref a, .int v1, .int v2] [] M Q := by
  refine mx_iload_n 2 (mx_da t_X5_placeOf 2 rfl) rfl rfl rfl ?_
  refine mx_aload_n 0 (mx_da t_X5_placeOf 3 rfl) rfl rfl rfl rfl ?_
  refine mx_getI fs_RX5_15 rfl (row_s T ha) (mx_da t_X5_placeOf 4 rfl) rfl ?_
  refine mx_icmp_ge 28 (mx_da t_X5_placeOf 5 rfl) rfl rfl (fun hc => ?_) (fun hc => ?_)
  · have h := h.1 hc
    refine mx_iconst (v := (-1)) (mx_da t_X5_placeOf 16 rfl) rfl rfl ?_
    exact mx_iret rfl (mx_da t_X5_placeOf 17 rfl) h
  · have h := h.2 hc
    refine mx_aload_n 0 (mx_da t_X5_placeOf 6 rfl) rfl rfl rfl rfl ?_
    refine mx_getR (a + 1) fs_RX5_9 rfl (row_s T ha) (row_r0 T ha) (mx_da t_X5_placeOf 7 rfl) rfl ?_
    refine mx_iload_n 2 (mx_da t_X5_placeOf 8 rfl) rfl rfl rfl ?_
    refine mx_iald (row_a0 T ha) h.1 (mx_da t_X5_placeOf 9 rfl) rfl ?_
    have h := h.2
    refine mx_iload_n 1 (mx_da t_X5_placeOf 10 rfl) rfl rfl rfl ?_
    refine mx_icmp_ne 22 (mx_da t_X5_placeOf 11 rfl) rfl rfl (fun hc => ?_) (fun hc => ?_)
    · have h := h.1 hc
      refine mx_iinc 2 (v := v2 + 1) [.ref a, .int v1, .int (v2 + 1)] (mx_da t_X5_placeOf 14 rfl) rfl (by decide) rfl rfl rfl ?_
      refine mx_goto (n := 2) (mx_da t_X5_placeOf 15 rfl) rfl ?_
      exact h
    · have h := h.2 hc
      refine mx_iload_n 2 (mx_da t_X5_placeOf 12 rfl) rfl rfl rfl ?_
      exact mx_iret rfl (mx_da t_X5_placeOf 13 rfl) h
set_option maxHeartbeats 1000000 in
theorem x_X5_wrongBy_0 {d : Nat} {M : mx_M} {Q : mx_O → mx_M → Prop} (T : mx_Tp M) (a : Nat) (ha : mx_Row a) (v2 : Int32)
    (h : mx_W m_X5_wrongBy (d + 1) 5 [.ref a, .ref 24, .int v2, .int 0, .int 0, .retAddr 0] [] M Q) :
    mx_W m_X5_wrongBy (d + 1) 0 [.ref a, .ref 24, .int v2, .retAddr 0, .retAddr 0, .retAddr 0] [] M Q := by
  refine mx_iconst (v := 0) (mx_da t_X5_wrongBy 0 rfl) rfl rfl ?_
  refine mx_istore_n 3 [.ref a, .ref 24, .int v2, .int 0, .retAddr 0, .retAddr 0] (mx_da t_X5_wrongBy 1 rfl) rfl rfl (by decide) rfl ?_
  refine mx_iconst (v := 0) (mx_da t_X5_wrongBy 2 rfl) rfl rfl ?_
  refine mx_istore 4 [.ref a, .ref 24, .int v2, .int 0, .int 0, .retAddr 0] (mx_da t_X5_wrongBy 3 rfl) rfl (by decide) rfl ?_
  exact h
set_option maxHeartbeats 1000000 in
theorem x_X5_wrongBy_5 {d : Nat} {M : mx_M} {Q : mx_O → mx_M → Prop} (T : mx_Tp M) (a : Nat) (ha : mx_Row a) (v2 : Int32) (v3 : Int32) (v4 : Int32)
    (h : (((mx_I M a 1) ≤ v4 → Q (.inl (some (.int v3))) M) ∧ (¬ (mx_I M a 1) ≤ v4 → mx_W m_X5_wrongBy (d + 1) 20 [.ref a, .ref 24, .int v2, .int v3, .int v4, .int (v4 + 1)] [] M Q))) :
    mx_W m_X5_wrongBy (d + 1) 5 [.ref a, .ref 24, .int v2, .int v3, .int v4, .retAddr 0] [] M Q := by
  refine mx_iload 4 (mx_da t_X5_wrongBy 4 rfl) rfl rfl ?_
  refine mx_aload_n 0 (mx_da t_X5_wrongBy 5 rfl) rfl rfl rfl rfl ?_
  refine mx_getI fs_RX5_15 rfl (row_s T ha) (mx_da t_X5_wrongBy 6 rfl) rfl ?_
  refine mx_icmp_ge 66 (mx_da t_X5_wrongBy 7 rfl) rfl rfl (fun hc => ?_) (fun hc => ?_)
  · have h := h.1 hc
    refine mx_iload_n 3 (mx_da t_X5_wrongBy 33 rfl) rfl rfl rfl ?_
    exact mx_iret rfl (mx_da t_X5_wrongBy 34 rfl) h
  · have h := h.2 hc
    refine mx_iload 4 (mx_da t_X5_wrongBy 8 rfl) rfl rfl ?_
    refine mx_iconst (v := 1) (mx_da t_X5_wrongBy 9 rfl) rfl rfl ?_
    refine mx_iadd (mx_da t_X5_wrongBy 10 rfl) rfl ?_
    refine mx_istore 5 [.ref a, .ref 24, .int v2, .int v3, .int v4, .int (v4 + 1)] (mx_da t_X5_wrongBy 11 rfl) rfl (by decide) rfl ?_
    exact h
set_option maxHeartbeats 1000000 in
theorem x_X5_wrongBy_20 {d : Nat} {M : mx_M} {Q : mx_O → mx_M → Prop} (T : mx_Tp M) (a : Nat) (ha : mx_Row a) (v2 : Int32) (v3 : Int32) (v4 : Int32) (v5 : Int32)
    (h : (((mx_I M a 1) ≤ v5 → mx_W m_X5_wrongBy (d + 1) 5 [.ref a, .ref 24, .int v2, .int v3, .int (v4 + 1), .retAddr 0] [] M Q) ∧ (¬ (mx_I M a 1) ≤ v5 → (vp_in v5 10 ∧ (vp_in v4 10 ∧ (mx_W m_X3_isAhead d 0 [.ref 24, .int v2, .int (mx_I M (a + 1) v5.toNatClampNeg), .int (mx_I M (a + 1) v4.toNatClampNeg)] [] M (fun o M1 => mx_sh M1 = mx_sh M ∧ mx_R M1 = mx_R M ∧ (∃ x2 : Bool, o = .inl (some (.int (mx_b x2))) ∧ ((x2 = false → mx_W m_X5_wrongBy (d + 1) 20 [.ref a, .ref 24, .int v2, .int v3, .int v4, .int (v5 + 1)] [] M1 Q) ∧ (x2 = true → mx_W m_X5_wrongBy (d + 1) 20 [.ref a, .ref 24, .int v2, .int (v3 + 1), .int v4, .int (v5 + 1)] [] M1 Q)))))))))) :
    mx_W m_X5_wrongBy (d + 1) 20 [.ref a, .ref 24, .int v2, .int v3, .int v4, .int v5] [] M Q := by
  refine mx_iload 5 (mx_da t_X5_wrongBy 12 rfl) rfl rfl ?_
  refine mx_aload_n 0 (mx_da t_X5_wrongBy 13 rfl) rfl rfl rfl rfl ?_
  refine mx_getI fs_RX5_15 rfl (row_s T ha) (mx_da t_X5_wrongBy 14 rfl) rfl ?_
  refine mx_icmp_ge 60 (mx_da t_X5_wrongBy 15 rfl) rfl rfl (fun hc => ?_) (fun hc => ?_)
  · have h := h.1 hc
    refine mx_iinc 4 (v := v4 + 1) [.ref a, .ref 24, .int v2, .int v3, .int (v4 + 1), .int v5] (mx_da t_X5_wrongBy 31 rfl) rfl (by decide) rfl rfl rfl ?_
    refine mx_goto (n := 5) (mx_da t_X5_wrongBy 32 rfl) rfl ?_
    exact mx_wkn [.ref a, .ref 24, .int v2, .int v3, .int (v4 + 1), .retAddr 0] ⟨Or.inr rfl, Or.inr rfl, Or.inr rfl, Or.inr rfl, Or.inr rfl, Or.inl rfl, trivial⟩ h
  · have h := h.2 hc
    refine mx_aload_n 1 (mx_da t_X5_wrongBy 16 rfl) rfl rfl rfl rfl ?_
    refine mx_iload_n 2 (mx_da t_X5_wrongBy 17 rfl) rfl rfl rfl ?_
    refine mx_aload_n 0 (mx_da t_X5_wrongBy 18 rfl) rfl rfl rfl rfl ?_
    refine mx_getR (a + 1) fs_RX5_9 rfl (row_s T ha) (row_r0 T ha) (mx_da t_X5_wrongBy 19 rfl) rfl ?_
    refine mx_iload 5 (mx_da t_X5_wrongBy 20 rfl) rfl rfl ?_
    refine mx_iald (row_a0 T ha) h.1 (mx_da t_X5_wrongBy 21 rfl) rfl ?_
    have h := h.2
    refine mx_aload_n 0 (mx_da t_X5_wrongBy 22 rfl) rfl rfl rfl rfl ?_
    refine mx_getR (a + 1) fs_RX5_9 rfl (row_s T ha) (row_r0 T ha) (mx_da t_X5_wrongBy 23 rfl) rfl ?_
    refine mx_iload 4 (mx_da t_X5_wrongBy 24 rfl) rfl rfl ?_
    refine mx_iald (row_a0 T ha) h.1 (mx_da t_X5_wrongBy 25 rfl) rfl ?_
    have h := h.2
    refine mx_callV yX3_isAhead m_X3_isAhead [.int v2, .int (mx_I M (a + 1) v5.toNatClampNeg), .int (mx_I M (a + 1) v4.toNatClampNeg)] mm_X3_isAhead ml_RX5_31 im_X3_isAhead se_X3_isAhead (tp_s T 24 rfl) rfl rfl (Nat.le_of_ble_eq_true rfl) (mx_da t_X5_wrongBy 26 rfl) rfl (Nat.le_of_ble_eq_true rfl) rfl ?_
    refine mx_mono h ?_
    intro o M1 ho
    obtain ⟨e1, e2, ho⟩ := ho
    obtain ⟨x2, rfl, h⟩ := ho
    refine ⟨e1, ?_⟩
    have T := tp_of e1 e2 T
    clear e1 e2
    show mx_W m_X5_wrongBy (d + 1) 48 [.ref a, .ref 24, .int v2, .int v3, .int v4, .int v5] [.int (mx_b x2)] M1 Q
    refine mx_if_eq 54 (mx_da t_X5_wrongBy 27 rfl) rfl rfl (fun hc => ?_) (fun hc => ?_)
    · have h := h.1 (mx_b0.mp hc)
      refine mx_iinc 5 (v := v5 + 1) [.ref a, .ref 24, .int v2, .int v3, .int v4, .int (v5 + 1)] (mx_da t_X5_wrongBy 29 rfl) rfl (by decide) rfl rfl rfl ?_
      refine mx_goto (n := 20) (mx_da t_X5_wrongBy 30 rfl) rfl ?_
      exact h
    · have h := h.2 (mx_bn.mp hc)
      refine mx_iinc 3 (v := v3 + 1) [.ref a, .ref 24, .int v2, .int (v3 + 1), .int v4, .int v5] (mx_da t_X5_wrongBy 28 rfl) rfl (by decide) rfl rfl rfl ?_
      refine mx_iinc 5 (v := v5 + 1) [.ref a, .ref 24, .int v2, .int (v3 + 1), .int v4, .int (v5 + 1)] (mx_da t_X5_wrongBy 29 rfl) rfl (by decide) rfl rfl rfl ?_
      refine mx_goto (n := 20) (mx_da t_X5_wrongBy 30 rfl) rfl ?_
      exact h
set_option maxHeartbeats 1000000 in
theorem x_X3_isAhead_0 {d : Nat} {M : mx_M} {Q : mx_O → mx_M → Prop} (T : mx_Tp M) (v1 : Int32) (v2 : Int32) (v3 : Int32)
    (h : (mx_W m_X3_rankOf d 0 [.ref 24, .int v1, .int v2] [] M (fun o M1 => mx_sh M1 = mx_sh M ∧ mx_R M1 = mx_R M ∧ (∃ x2 : Int32, o = .inl (some (.int x2)) ∧ (mx_W m_X3_rankOf d 0 [.ref 24, .int v1, .int v3] [] M1 (fun o M3 => mx_sh M3 = mx_sh M1 ∧ mx_R M3 = mx_R M1 ∧ (∃ x4 : Int32, o = .inl (some (.int x4)) ∧ ((x4 ≤ x2 → Q (.inl (some (.int (mx_b false)))) M3) ∧ (¬ x4 ≤ x2 → Q (.inl (some (.int (mx_b true)))) M3))))))))) :
    mx_W m_X3_isAhead (d + 1) 0 [.ref 24, .int v1, .int v2, .int v3] [] M Q := by
  refine mx_aload_n 0 (mx_da t_X3_isAhead 0 rfl) rfl rfl rfl rfl ?_
  refine mx_iload_n 1 (mx_da t_X3_isAhead 1 rfl) rfl rfl rfl ?_
  refine mx_iload_n 2 (mx_da t_X3_isAhead 2 rfl) rfl rfl rfl ?_
  refine mx_callV yX3_rankOf m_X3_rankOf [.int v1, .int v2] mm_X3_rankOf ml_RX3_151 im_X3_rankOf se_X3_rankOf (tp_s T 24 rfl) rfl rfl (Nat.le_of_ble_eq_true rfl) (mx_da t_X3_isAhead 3 rfl) rfl (Nat.le_of_ble_eq_true rfl) rfl ?_
  refine mx_mono h ?_
  intro o M1 ho
  obtain ⟨e1, e2, ho⟩ := ho
  obtain ⟨x2, rfl, h⟩ := ho
  refine ⟨e1, ?_⟩
  have T := tp_of e1 e2 T
  clear e1 e2
  show mx_W m_X3_isAhead (d + 1) 6 [.ref 24, .int v1, .int v2, .int v3] [.int x2] M1 Q
  refine mx_aload_n 0 (mx_da t_X3_isAhead 4 rfl) rfl rfl rfl rfl ?_
  refine mx_iload_n 1 (mx_da t_X3_isAhead 5 rfl) rfl rfl rfl ?_
  refine mx_iload_n 3 (mx_da t_X3_isAhead 6 rfl) rfl rfl rfl ?_
  refine mx_callV yX3_rankOf m_X3_rankOf [.int v1, .int v3] mm_X3_rankOf ml_RX3_151 im_X3_rankOf se_X3_rankOf (tp_s T 24 rfl) rfl rfl (Nat.le_of_ble_eq_true rfl) (mx_da t_X3_isAhead 7 rfl) rfl (Nat.le_of_ble_eq_true rfl) rfl ?_
  refine mx_mono h ?_
  intro o M3 ho
  obtain ⟨e1, e2, ho⟩ := ho
  obtain ⟨x4, rfl, h⟩ := ho
  refine ⟨e1, ?_⟩
  have T := tp_of e1 e2 T
  clear e1 e2
  show mx_W m_X3_isAhead (d + 1) 12 [.ref 24, .int v1, .int v2, .int v3] [.int x4, .int x2] M3 Q
  refine mx_icmp_ge 19 (mx_da t_X3_isAhead 8 rfl) rfl rfl (fun hc => ?_) (fun hc => ?_)
  · have h := h.1 hc
    refine mx_iconst (v := 0) (mx_da t_X3_isAhead 11 rfl) rfl rfl ?_
    exact mx_zret rfl rfl (mx_da t_X3_isAhead 12 rfl) h
  · have h := h.2 hc
    refine mx_iconst (v := 1) (mx_da t_X3_isAhead 9 rfl) rfl rfl ?_
    refine mx_goto (n := 20) (mx_da t_X3_isAhead 10 rfl) rfl ?_
    exact mx_zret rfl rfl (mx_da t_X3_isAhead 12 rfl) h
set_option maxHeartbeats 1000000 in
theorem x_X3_rankOf_0 {d : Nat} {M : mx_M} {Q : mx_O → mx_M → Prop} (T : mx_Tp M) (v1 : Int32) (v2 : Int32)
    (h : (vp_in ((v1 * 10) + v2) 50 ∧ Q (.inl (some (.int (mx_I M 27 ((v1 * 10) + v2).toNatClampNeg)))) M)) :
    mx_W m_X3_rankOf d 0 [.ref 24, .int v1, .int v2] [] M Q := by
  refine mx_aload_n 0 (mx_da t_X3_rankOf 0 rfl) rfl rfl rfl rfl ?_
  refine mx_getR 27 fs_RX3_18 rfl (tp_s T 24 rfl) (tp_r T 24 rfl) (mx_da t_X3_rankOf 1 rfl) rfl ?_
  refine mx_iload_n 1 (mx_da t_X3_rankOf 2 rfl) rfl rfl rfl ?_
  refine mx_bipush (v := 10) (mx_da t_X3_rankOf 3 rfl) rfl rfl ?_
  refine mx_imul (mx_da t_X3_rankOf 4 rfl) rfl ?_
  refine mx_iload_n 2 (mx_da t_X3_rankOf 5 rfl) rfl rfl rfl ?_
  refine mx_iadd (mx_da t_X3_rankOf 6 rfl) rfl ?_
  refine mx_iald (tp_s T 27 rfl) h.1 (mx_da t_X3_rankOf 7 rfl) rfl ?_
  have h := h.2
  exact mx_iret rfl (mx_da t_X3_rankOf 8 rfl) h
