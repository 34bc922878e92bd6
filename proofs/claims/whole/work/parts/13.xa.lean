/-! the walks of the small classes (by tools/conf.py) -/
set_option maxHeartbeats 1000000 in
theorem x_X0_copy_0 {d : Nat} {M : mx_M} {Q : mx_O → mx_M → Prop} (T : mx_Tp M) (a : Nat) (ha : mx_Act a) (b : Nat) (hb : mx_Act b)
    (h : (∀ M1, M1 = mx_setI M a 1 (mx_I M b 1) → (∀ M2, M2 = mx_cpJ M1 (b + 1) (a + 1) 0 0 40 → Q (.inl none) M2))) :
    mx_W m_X0_copy (d + 1) 0 [.ref a, .ref b] [] M Q := by
  refine mx_aload_n 0 (mx_da t_X0_copy 0 rfl) rfl rfl rfl rfl ?_
  refine mx_aload_n 1 (mx_da t_X0_copy 1 rfl) rfl rfl rfl rfl ?_
  refine mx_getI fs_RX0_15 rfl (act_s T hb) (mx_da t_X0_copy 2 rfl) rfl ?_
  refine mx_putI fs_RX0_15 rfl (act_s T ha) rfl rfl rfl (mx_da t_X0_copy 3 rfl) rfl ?_
  refine mx_gen (mx_setI M a 1 (mx_I M b 1)) (fun M1 e9 => ?_)
  have h := h _ e9
  have T : mx_Tp M1 := tp_e e9 T
  refine mx_aload_n 1 (mx_da t_X0_copy 4 rfl) rfl rfl rfl rfl ?_
  refine mx_getR (b + 1) fs_RX0_9 rfl (act_s T hb) (act_r0 T hb) (mx_da t_X0_copy 5 rfl) rfl ?_
  refine mx_iconst (v := 0) (mx_da t_X0_copy 6 rfl) rfl rfl ?_
  refine mx_aload_n 0 (mx_da t_X0_copy 7 rfl) rfl rfl rfl rfl ?_
  refine mx_getR (a + 1) fs_RX0_9 rfl (act_s T ha) (act_r0 T ha) (mx_da t_X0_copy 8 rfl) rfl ?_
  refine mx_iconst (v := 0) (mx_da t_X0_copy 9 rfl) rfl rfl ?_
  refine mx_bipush (v := 40) (mx_da t_X0_copy 10 rfl) rfl rfl ?_
  refine mx_copyJ ac_RX0_19 (act_a0 T hb) (act_a0 T ha) (by decide) (by decide) (by decide) (by decide) (by decide) (mx_da t_X0_copy 11 rfl) rfl (by decide) ?_
  refine mx_gen (mx_cpJ M1 (b + 1) (a + 1) 0 0 40) (fun M2 e9 => ?_)
  have h := h _ e9
  have T : mx_Tp M2 := tp_e e9 T
  exact mx_vret rfl (mx_da t_X0_copy 12 rfl) h
set_option maxHeartbeats 1000000 in
theorem x_X0_keep_0 {d : Nat} {M : mx_M} {Q : mx_O → mx_M → Prop} (T : mx_Tp M) (a : Nat) (ha : mx_Act a) (v1 : Int64)
    (h : (((mx_I M a 1) < (40 : Int32) → (vp_in (mx_I M a 1) 40 ∧ (∀ M1, M1 = mx_setJ M (a + 1) ((mx_I M a 1).toNatClampNeg) v1 → (∀ M2, M2 = mx_setI M1 a 1 ((mx_I M1 a 1) + 1) → Q (.inl none) M2)))) ∧ (¬ (mx_I M a 1) < (40 : Int32) → (∀ M3, M3 = mx_cpJ M (a + 1) (a + 1) 1 0 39 → (∀ M4, M4 = mx_setI M3 a 1 39 → (vp_in (mx_I M4 a 1) 40 ∧ (∀ M5, M5 = mx_setJ M4 (a + 1) ((mx_I M4 a 1).toNatClampNeg) v1 → (∀ M6, M6 = mx_setI M5 a 1 ((mx_I M5 a 1) + 1) → Q (.inl none) M6)))))))) :
    mx_W m_X0_keep (d + 1) 0 [.ref a, .long v1, .retAddr 0] [] M Q := by
  refine mx_aload_n 0 (mx_da t_X0_keep 0 rfl) rfl rfl rfl rfl ?_
  refine mx_getI fs_RX0_15 rfl (act_s T ha) (mx_da t_X0_keep 1 rfl) rfl ?_
  refine mx_bipush (v := 40) (mx_da t_X0_keep 2 rfl) rfl rfl ?_
  refine mx_icmp_lt 30 (mx_da t_X0_keep 3 rfl) rfl rfl (fun g9 => ?_) (fun g9 => ?_)
  · have h := h.1 g9
    refine mx_aload_n 0 (mx_da t_X0_keep 15 rfl) rfl rfl rfl rfl ?_
    refine mx_getR (a + 1) fs_RX0_9 rfl (act_s T ha) (act_r0 T ha) (mx_da t_X0_keep 16 rfl) rfl ?_
    refine mx_aload_n 0 (mx_da t_X0_keep 17 rfl) rfl rfl rfl rfl ?_
    refine mx_getI fs_RX0_15 rfl (act_s T ha) (mx_da t_X0_keep 18 rfl) rfl ?_
    refine mx_lload_n 1 (mx_da t_X0_keep 19 rfl) rfl rfl rfl ?_
    refine mx_last (act_a0 T ha) h.1 (mx_da t_X0_keep 20 rfl) rfl ?_
    have h := h.2
    refine mx_gen (mx_setJ M (a + 1) ((mx_I M a 1).toNatClampNeg) v1) (fun M1 e9 => ?_)
    have h := h _ e9
    have T : mx_Tp M1 := tp_e e9 T
    refine mx_aload_n 0 (mx_da t_X0_keep 21 rfl) rfl rfl rfl rfl ?_
    refine mx_dup (mx_da t_X0_keep 22 rfl) rfl rfl ?_
    refine mx_getI fs_RX0_15 rfl (act_s T ha) (mx_da t_X0_keep 23 rfl) rfl ?_
    refine mx_iconst (v := 1) (mx_da t_X0_keep 24 rfl) rfl rfl ?_
    refine mx_iadd (mx_da t_X0_keep 25 rfl) rfl ?_
    refine mx_putI fs_RX0_15 rfl (act_s T ha) rfl rfl rfl (mx_da t_X0_keep 26 rfl) rfl ?_
    refine mx_gen (mx_setI M1 a 1 ((mx_I M1 a 1) + 1)) (fun M2 e9 => ?_)
    have h := h _ e9
    have T : mx_Tp M2 := tp_e e9 T
    exact mx_vret rfl (mx_da t_X0_keep 27 rfl) h
  · have h := h.2 g9
    refine mx_aload_n 0 (mx_da t_X0_keep 4 rfl) rfl rfl rfl rfl ?_
    refine mx_getR (a + 1) fs_RX0_9 rfl (act_s T ha) (act_r0 T ha) (mx_da t_X0_keep 5 rfl) rfl ?_
    refine mx_iconst (v := 1) (mx_da t_X0_keep 6 rfl) rfl rfl ?_
    refine mx_aload_n 0 (mx_da t_X0_keep 7 rfl) rfl rfl rfl rfl ?_
    refine mx_getR (a + 1) fs_RX0_9 rfl (act_s T ha) (act_r0 T ha) (mx_da t_X0_keep 8 rfl) rfl ?_
    refine mx_iconst (v := 0) (mx_da t_X0_keep 9 rfl) rfl rfl ?_
    refine mx_bipush (v := 39) (mx_da t_X0_keep 10 rfl) rfl rfl ?_
    refine mx_copyJ ac_RX0_19 (act_a0 T ha) (act_a0 T ha) (by decide) (by decide) (by decide) (by decide) (by decide) (mx_da t_X0_keep 11 rfl) rfl (by decide) ?_
    refine mx_gen (mx_cpJ M (a + 1) (a + 1) 1 0 39) (fun M3 e9 => ?_)
    have h := h _ e9
    have T : mx_Tp M3 := tp_e e9 T
    refine mx_aload_n 0 (mx_da t_X0_keep 12 rfl) rfl rfl rfl rfl ?_
    refine mx_bipush (v := 39) (mx_da t_X0_keep 13 rfl) rfl rfl ?_
    refine mx_putI fs_RX0_15 rfl (act_s T ha) rfl rfl rfl (mx_da t_X0_keep 14 rfl) rfl ?_
    refine mx_gen (mx_setI M3 a 1 39) (fun M4 e9 => ?_)
    have h := h _ e9
    have T : mx_Tp M4 := tp_e e9 T
    refine mx_aload_n 0 (mx_da t_X0_keep 15 rfl) rfl rfl rfl rfl ?_
    refine mx_getR (a + 1) fs_RX0_9 rfl (act_s T ha) (act_r0 T ha) (mx_da t_X0_keep 16 rfl) rfl ?_
    refine mx_aload_n 0 (mx_da t_X0_keep 17 rfl) rfl rfl rfl rfl ?_
    refine mx_getI fs_RX0_15 rfl (act_s T ha) (mx_da t_X0_keep 18 rfl) rfl ?_
    refine mx_lload_n 1 (mx_da t_X0_keep 19 rfl) rfl rfl rfl ?_
    refine mx_last (act_a0 T ha) h.1 (mx_da t_X0_keep 20 rfl) rfl ?_
    have h := h.2
    refine mx_gen (mx_setJ M4 (a + 1) ((mx_I M4 a 1).toNatClampNeg) v1) (fun M5 e9 => ?_)
    have h := h _ e9
    have T : mx_Tp M5 := tp_e e9 T
    refine mx_aload_n 0 (mx_da t_X0_keep 21 rfl) rfl rfl rfl rfl ?_
    refine mx_dup (mx_da t_X0_keep 22 rfl) rfl rfl ?_
    refine mx_getI fs_RX0_15 rfl (act_s T ha) (mx_da t_X0_keep 23 rfl) rfl ?_
    refine mx_iconst (v := 1) (mx_da t_X0_keep 24 rfl) rfl rfl ?_
    refine mx_iadd (mx_da t_X0_keep 25 rfl) rfl ?_
    refine mx_putI fs_RX0_15 rfl (act_s T ha) rfl rfl rfl (mx_da t_X0_keep 26 rfl) rfl ?_
    refine mx_gen (mx_setI M5 a 1 ((mx_I M5 a 1) + 1)) (fun M6 e9 => ?_)
    have h := h _ e9
    have T : mx_Tp M6 := tp_e e9 T
    exact mx_vret rfl (mx_da t_X0_keep 27 rfl) h
set_option maxHeartbeats 1000000 in
theorem x_X0_dropLatest_0 {d : Nat} {M : mx_M} {Q : mx_O → mx_M → Prop} (T : mx_Tp M) (a : Nat) (ha : mx_Act a)
    (h : ((¬ (mx_I M a 1) = 0 → (∀ M1, M1 = mx_setI M a 1 ((mx_I M a 1) - 1) → (vp_in (mx_I M1 a 1) 40 ∧ Q (.inl (some (.long (mx_J M1 (a + 1) (mx_I M1 a 1).toNatClampNeg)))) M1))) ∧ ((mx_I M a 1) = 0 → Q (.inl (some (.long 0))) M))) :
    mx_W m_X0_dropLatest d 0 [.ref a] [] M Q := by
  refine mx_aload_n 0 (mx_da t_X0_dropLatest 0 rfl) rfl rfl rfl rfl ?_
  refine mx_getI fs_RX0_15 rfl (act_s T ha) (mx_da t_X0_dropLatest 1 rfl) rfl ?_
  refine mx_if_ne 9 (mx_da t_X0_dropLatest 2 rfl) rfl rfl (fun g9 => ?_) (fun g9 => ?_)
  · have h := h.1 g9
    refine mx_aload_n 0 (mx_da t_X0_dropLatest 5 rfl) rfl rfl rfl rfl ?_
    refine mx_dup (mx_da t_X0_dropLatest 6 rfl) rfl rfl ?_
    refine mx_getI fs_RX0_15 rfl (act_s T ha) (mx_da t_X0_dropLatest 7 rfl) rfl ?_
    refine mx_iconst (v := 1) (mx_da t_X0_dropLatest 8 rfl) rfl rfl ?_
    refine mx_isub (mx_da t_X0_dropLatest 9 rfl) rfl ?_
    refine mx_putI fs_RX0_15 rfl (act_s T ha) rfl rfl rfl (mx_da t_X0_dropLatest 10 rfl) rfl ?_
    refine mx_gen (mx_setI M a 1 ((mx_I M a 1) - 1)) (fun M1 e9 => ?_)
    have h := h _ e9
    have T : mx_Tp M1 := tp_e e9 T
    refine mx_aload_n 0 (mx_da t_X0_dropLatest 11 rfl) rfl rfl rfl rfl ?_
    refine mx_getR (a + 1) fs_RX0_9 rfl (act_s T ha) (act_r0 T ha) (mx_da t_X0_dropLatest 12 rfl) rfl ?_
    refine mx_aload_n 0 (mx_da t_X0_dropLatest 13 rfl) rfl rfl rfl rfl ?_
    refine mx_getI fs_RX0_15 rfl (act_s T ha) (mx_da t_X0_dropLatest 14 rfl) rfl ?_
    refine mx_lald (act_a0 T ha) h.1 (mx_da t_X0_dropLatest 15 rfl) rfl ?_
    have h := h.2
    exact mx_lret rfl (mx_da t_X0_dropLatest 16 rfl) h
  · have h := h.2 g9
    refine mx_lconst (v := 0) (mx_da t_X0_dropLatest 3 rfl) rfl rfl ?_
    exact mx_lret rfl (mx_da t_X0_dropLatest 4 rfl) h
set_option maxHeartbeats 1000000 in
theorem x_X1_clear_0 {d : Nat} {M : mx_M} {Q : mx_O → mx_M → Prop} (T : mx_Tp M) (a : Nat) (ha : mx_Cat a)
    (h : (∀ M1, M1 = mx_setI M a 12 0 → (∀ M2, M2 = mx_setI M1 a 13 0 → Q (.inl none) M2))) :
    mx_W m_X1_clear d 0 [.ref a] [] M Q := by
  refine mx_aload_n 0 (mx_da t_X1_clear 0 rfl) rfl rfl rfl rfl ?_
  refine mx_iconst (v := 0) (mx_da t_X1_clear 1 rfl) rfl rfl ?_
  refine mx_putI fs_RX1_50 rfl (cat_s T ha) rfl rfl rfl (mx_da t_X1_clear 2 rfl) rfl ?_
  refine mx_gen (mx_setI M a 12 0) (fun M1 e9 => ?_)
  have h := h _ e9
  have T : mx_Tp M1 := tp_e e9 T
  refine mx_aload_n 0 (mx_da t_X1_clear 3 rfl) rfl rfl rfl rfl ?_
  refine mx_iconst (v := 0) (mx_da t_X1_clear 4 rfl) rfl rfl ?_
  refine mx_putI fs_RX1_54 rfl (cat_s T ha) rfl rfl rfl (mx_da t_X1_clear 5 rfl) rfl ?_
  refine mx_gen (mx_setI M1 a 13 0) (fun M2 e9 => ?_)
  have h := h _ e9
  have T : mx_Tp M2 := tp_e e9 T
  exact mx_vret rfl (mx_da t_X1_clear 6 rfl) h
set_option maxHeartbeats 1000000 in
theorem x_X1_addCard_0 {d : Nat} {M : mx_M} {Q : mx_O → mx_M → Prop} (T : mx_Tp M) (a : Nat) (ha : mx_Cat a) (v1 : Int32)
    (h : (((10 : Int32) ≤ (mx_I M a 12) → Q (.inl none) M) ∧ (¬ (10 : Int32) ≤ (mx_I M a 12) → (vp_in (mx_I M a 12) 10 ∧ (∀ M1, M1 = mx_setI M (a + 1) ((mx_I M a 12).toNatClampNeg) v1 → (vp_in (mx_I M1 a 12) 10 ∧ (∀ M2, M2 = mx_setI M1 (a + 2) ((mx_I M1 a 12).toNatClampNeg) 0 → (vp_in (mx_I M2 a 12) 10 ∧ (∀ M3, M3 = mx_setI M2 (a + 3) ((mx_I M2 a 12).toNatClampNeg) 0 → (∀ M4, M4 = mx_setI M3 a 12 ((mx_I M3 a 12) + 1) → Q (.inl none) M4)))))))))) :
    mx_W m_X1_addCard d 0 [.ref a, .int v1] [] M Q := by
  refine mx_aload_n 0 (mx_da t_X1_addCard 0 rfl) rfl rfl rfl rfl ?_
  refine mx_getI fs_RX1_50 rfl (cat_s T ha) (mx_da t_X1_addCard 1 rfl) rfl ?_
  refine mx_bipush (v := 10) (mx_da t_X1_addCard 2 rfl) rfl rfl ?_
  refine mx_icmp_ge 49 (mx_da t_X1_addCard 3 rfl) rfl rfl (fun g9 => ?_) (fun g9 => ?_)
  · have h := h.1 g9
    exact mx_vret rfl (mx_da t_X1_addCard 28 rfl) h
  · have h := h.2 g9
    refine mx_aload_n 0 (mx_da t_X1_addCard 4 rfl) rfl rfl rfl rfl ?_
    refine mx_getR (a + 1) fs_RX1_9 rfl (cat_s T ha) (cat_r0 T ha) (mx_da t_X1_addCard 5 rfl) rfl ?_
    refine mx_aload_n 0 (mx_da t_X1_addCard 6 rfl) rfl rfl rfl rfl ?_
    refine mx_getI fs_RX1_50 rfl (cat_s T ha) (mx_da t_X1_addCard 7 rfl) rfl ?_
    refine mx_iload_n 1 (mx_da t_X1_addCard 8 rfl) rfl rfl rfl ?_
    refine mx_iast (cat_a0 T ha) h.1 (mx_da t_X1_addCard 9 rfl) rfl ?_
    have h := h.2
    refine mx_gen (mx_setI M (a + 1) ((mx_I M a 12).toNatClampNeg) v1) (fun M1 e9 => ?_)
    have h := h _ e9
    have T : mx_Tp M1 := tp_e e9 T
    refine mx_aload_n 0 (mx_da t_X1_addCard 10 rfl) rfl rfl rfl rfl ?_
    refine mx_getR (a + 2) fs_RX1_15 rfl (cat_s T ha) (cat_r1 T ha) (mx_da t_X1_addCard 11 rfl) rfl ?_
    refine mx_aload_n 0 (mx_da t_X1_addCard 12 rfl) rfl rfl rfl rfl ?_
    refine mx_getI fs_RX1_50 rfl (cat_s T ha) (mx_da t_X1_addCard 13 rfl) rfl ?_
    refine mx_iconst (v := 0) (mx_da t_X1_addCard 14 rfl) rfl rfl ?_
    refine mx_iast (cat_a1 T ha) h.1 (mx_da t_X1_addCard 15 rfl) rfl ?_
    have h := h.2
    refine mx_gen (mx_setI M1 (a + 2) ((mx_I M1 a 12).toNatClampNeg) 0) (fun M2 e9 => ?_)
    have h := h _ e9
    have T : mx_Tp M2 := tp_e e9 T
    refine mx_aload_n 0 (mx_da t_X1_addCard 16 rfl) rfl rfl rfl rfl ?_
    refine mx_getR (a + 3) fs_RX1_18 rfl (cat_s T ha) (cat_r2 T ha) (mx_da t_X1_addCard 17 rfl) rfl ?_
    refine mx_aload_n 0 (mx_da t_X1_addCard 18 rfl) rfl rfl rfl rfl ?_
    refine mx_getI fs_RX1_50 rfl (cat_s T ha) (mx_da t_X1_addCard 19 rfl) rfl ?_
    refine mx_iconst (v := 0) (mx_da t_X1_addCard 20 rfl) rfl rfl ?_
    refine mx_iast (cat_a2 T ha) h.1 (mx_da t_X1_addCard 21 rfl) rfl ?_
    have h := h.2
    refine mx_gen (mx_setI M2 (a + 3) ((mx_I M2 a 12).toNatClampNeg) 0) (fun M3 e9 => ?_)
    have h := h _ e9
    have T : mx_Tp M3 := tp_e e9 T
    refine mx_aload_n 0 (mx_da t_X1_addCard 22 rfl) rfl rfl rfl rfl ?_
    refine mx_dup (mx_da t_X1_addCard 23 rfl) rfl rfl ?_
    refine mx_getI fs_RX1_50 rfl (cat_s T ha) (mx_da t_X1_addCard 24 rfl) rfl ?_
    refine mx_iconst (v := 1) (mx_da t_X1_addCard 25 rfl) rfl rfl ?_
    refine mx_iadd (mx_da t_X1_addCard 26 rfl) rfl ?_
    refine mx_putI fs_RX1_50 rfl (cat_s T ha) rfl rfl rfl (mx_da t_X1_addCard 27 rfl) rfl ?_
    refine mx_gen (mx_setI M3 a 12 ((mx_I M3 a 12) + 1)) (fun M4 e9 => ?_)
    have h := h _ e9
    have T : mx_Tp M4 := tp_e e9 T
    exact mx_vret rfl (mx_da t_X1_addCard 28 rfl) h
set_option maxHeartbeats 1000000 in
theorem x_X1_addWord_0 {d : Nat} {M : mx_M} {Q : mx_O → mx_M → Prop} (T : mx_Tp M) (a : Nat) (ha : mx_Cat a) (v1 : Int64) (v3 : Int32)
    (h : ((((mx_I M a 12) - 1) < 0 → Q (.inl none) M) ∧ (¬ ((mx_I M a 12) - 1) < 0 → (vp_in ((mx_I M a 12) - 1) 10 ∧ (((4 : Int32) ≤ (mx_I M (a + 2) ((mx_I M a 12) - 1).toNatClampNeg) → Q (.inl none) M) ∧ (¬ (4 : Int32) ≤ (mx_I M (a + 2) ((mx_I M a 12) - 1).toNatClampNeg) → (vp_in ((mx_I M a 12) - 1) 10 ∧ (vp_in ((((mx_I M a 12) - 1) * 4) + (mx_I M (a + 2) ((mx_I M a 12) - 1).toNatClampNeg)) 40 ∧ (∀ M1, M1 = mx_setJ M (a + 4) (((((mx_I M a 12) - 1) * 4) + (mx_I M (a + 2) ((mx_I M a 12) - 1).toNatClampNeg)).toNatClampNeg) v1 → (vp_in ((mx_I M a 12) - 1) 10 ∧ (vp_in ((mx_I M a 12) - 1) 10 ∧ (∀ M2, M2 = mx_setI M1 (a + 2) (((mx_I M a 12) - 1).toNatClampNeg) ((mx_I M1 (a + 2) ((mx_I M a 12) - 1).toNatClampNeg) + 1) → (vp_in ((mx_I M a 12) - 1) 10 ∧ (vp_in ((mx_I M a 12) - 1) 10 ∧ (∀ M3, M3 = mx_setI M2 (a + 3) (((mx_I M a 12) - 1).toNatClampNeg) ((mx_I M2 (a + 3) ((mx_I M a 12) - 1).toNatClampNeg) + v3) → Q (.inl none) M3))))))))))))))) :
    mx_W m_X1_addWord d 0 [.ref a, .long v1, .retAddr 0, .int v3, .retAddr 0] [] M Q := by
  refine mx_aload_n 0 (mx_da t_X1_addWord 0 rfl) rfl rfl rfl rfl ?_
  refine mx_getI fs_RX1_50 rfl (cat_s T ha) (mx_da t_X1_addWord 1 rfl) rfl ?_
  refine mx_iconst (v := 1) (mx_da t_X1_addWord 2 rfl) rfl rfl ?_
  refine mx_isub (mx_da t_X1_addWord 3 rfl) rfl ?_
  refine mx_istore 4 [.ref a, .long v1, .retAddr 0, .int v3, .int ((mx_I M a 12) - 1)] (mx_da t_X1_addWord 4 rfl) rfl (by decide) rfl ?_
  refine mx_iload 4 (mx_da t_X1_addWord 5 rfl) rfl rfl ?_
  refine mx_if_lt 64 (mx_da t_X1_addWord 6 rfl) rfl rfl (fun g9 => ?_) (fun g9 => ?_)
  · have h := h.1 g9
    exact mx_vret rfl (mx_da t_X1_addWord 41 rfl) h
  · have h := h.2 g9
    refine mx_aload_n 0 (mx_da t_X1_addWord 7 rfl) rfl rfl rfl rfl ?_
    refine mx_getR (a + 2) fs_RX1_15 rfl (cat_s T ha) (cat_r1 T ha) (mx_da t_X1_addWord 8 rfl) rfl ?_
    refine mx_iload 4 (mx_da t_X1_addWord 9 rfl) rfl rfl ?_
    refine mx_iald (cat_a1 T ha) h.1 (mx_da t_X1_addWord 10 rfl) rfl ?_
    have h := h.2
    refine mx_iconst (v := 4) (mx_da t_X1_addWord 11 rfl) rfl rfl ?_
    refine mx_icmp_ge 64 (mx_da t_X1_addWord 12 rfl) rfl rfl (fun g9 => ?_) (fun g9 => ?_)
    · have h := h.1 g9
      exact mx_vret rfl (mx_da t_X1_addWord 41 rfl) h
    · have h := h.2 g9
      refine mx_aload_n 0 (mx_da t_X1_addWord 13 rfl) rfl rfl rfl rfl ?_
      refine mx_getR (a + 4) fs_RX1_21 rfl (cat_s T ha) (cat_r3 T ha) (mx_da t_X1_addWord 14 rfl) rfl ?_
      refine mx_iload 4 (mx_da t_X1_addWord 15 rfl) rfl rfl ?_
      refine mx_iconst (v := 4) (mx_da t_X1_addWord 16 rfl) rfl rfl ?_
      refine mx_imul (mx_da t_X1_addWord 17 rfl) rfl ?_
      refine mx_aload_n 0 (mx_da t_X1_addWord 18 rfl) rfl rfl rfl rfl ?_
      refine mx_getR (a + 2) fs_RX1_15 rfl (cat_s T ha) (cat_r1 T ha) (mx_da t_X1_addWord 19 rfl) rfl ?_
      refine mx_iload 4 (mx_da t_X1_addWord 20 rfl) rfl rfl ?_
      refine mx_iald (cat_a1 T ha) h.1 (mx_da t_X1_addWord 21 rfl) rfl ?_
      have h := h.2
      refine mx_iadd (mx_da t_X1_addWord 22 rfl) rfl ?_
      refine mx_lload_n 1 (mx_da t_X1_addWord 23 rfl) rfl rfl rfl ?_
      refine mx_last (cat_a3 T ha) h.1 (mx_da t_X1_addWord 24 rfl) rfl ?_
      have h := h.2
      refine mx_gen (mx_setJ M (a + 4) (((((mx_I M a 12) - 1) * 4) + (mx_I M (a + 2) ((mx_I M a 12) - 1).toNatClampNeg)).toNatClampNeg) v1) (fun M1 e9 => ?_)
      have h := h _ e9
      have T : mx_Tp M1 := tp_e e9 T
      refine mx_aload_n 0 (mx_da t_X1_addWord 25 rfl) rfl rfl rfl rfl ?_
      refine mx_getR (a + 2) fs_RX1_15 rfl (cat_s T ha) (cat_r1 T ha) (mx_da t_X1_addWord 26 rfl) rfl ?_
      refine mx_iload 4 (mx_da t_X1_addWord 27 rfl) rfl rfl ?_
      refine mx_dup2 (mx_da t_X1_addWord 28 rfl) rfl rfl rfl ?_
      refine mx_iald (cat_a1 T ha) h.1 (mx_da t_X1_addWord 29 rfl) rfl ?_
      have h := h.2
      refine mx_iconst (v := 1) (mx_da t_X1_addWord 30 rfl) rfl rfl ?_
      refine mx_iadd (mx_da t_X1_addWord 31 rfl) rfl ?_
      refine mx_iast (cat_a1 T ha) h.1 (mx_da t_X1_addWord 32 rfl) rfl ?_
      have h := h.2
      refine mx_gen (mx_setI M1 (a + 2) (((mx_I M a 12) - 1).toNatClampNeg) ((mx_I M1 (a + 2) ((mx_I M a 12) - 1).toNatClampNeg) + 1)) (fun M2 e9 => ?_)
      have h := h _ e9
      have T : mx_Tp M2 := tp_e e9 T
      refine mx_aload_n 0 (mx_da t_X1_addWord 33 rfl) rfl rfl rfl rfl ?_
      refine mx_getR (a + 3) fs_RX1_18 rfl (cat_s T ha) (cat_r2 T ha) (mx_da t_X1_addWord 34 rfl) rfl ?_
      refine mx_iload 4 (mx_da t_X1_addWord 35 rfl) rfl rfl ?_
      refine mx_dup2 (mx_da t_X1_addWord 36 rfl) rfl rfl rfl ?_
      refine mx_iald (cat_a2 T ha) h.1 (mx_da t_X1_addWord 37 rfl) rfl ?_
      have h := h.2
      refine mx_iload_n 3 (mx_da t_X1_addWord 38 rfl) rfl rfl rfl ?_
      refine mx_iadd (mx_da t_X1_addWord 39 rfl) rfl ?_
      refine mx_iast (cat_a2 T ha) h.1 (mx_da t_X1_addWord 40 rfl) rfl ?_
      have h := h.2
      refine mx_gen (mx_setI M2 (a + 3) (((mx_I M a 12) - 1).toNatClampNeg) ((mx_I M2 (a + 3) ((mx_I M a 12) - 1).toNatClampNeg) + v3)) (fun M3 e9 => ?_)
      have h := h _ e9
      have T : mx_Tp M3 := tp_e e9 T
      exact mx_vret rfl (mx_da t_X1_addWord 41 rfl) h
set_option maxHeartbeats 1000000 in
theorem x_X1_addClerk_0 {d : Nat} {M : mx_M} {Q : mx_O → mx_M → Prop} (T : mx_Tp M) (a : Nat) (ha : mx_Cat a)
    (h : (((4 : Int32) ≤ (mx_I M a 13) → Q (.inl none) M) ∧ (¬ (4 : Int32) ≤ (mx_I M a 13) → (vp_in (mx_I M a 13) 4 ∧ (∀ M1, M1 = mx_setI M (a + 5) ((mx_I M a 13).toNatClampNeg) 0 → (vp_in (mx_I M1 a 13) 4 ∧ (∀ M2, M2 = mx_setI M1 (a + 9) ((mx_I M1 a 13).toNatClampNeg) (vp_nar .boolean 0) → (vp_in (mx_I M2 a 13) 4 ∧ (∀ M3, M3 = mx_setI M2 (a + 10) ((mx_I M2 a 13).toNatClampNeg) (vp_nar .boolean 0) → (vp_in (mx_I M3 a 13) 4 ∧ (∀ M4, M4 = mx_setI M3 (a + 11) ((mx_I M3 a 13).toNatClampNeg) (vp_nar .boolean 0) → (∀ M5, M5 = mx_setI M4 a 13 ((mx_I M4 a 13) + 1) → Q (.inl none) M5)))))))))))) :
    mx_W m_X1_addClerk d 0 [.ref a] [] M Q := by
  refine mx_aload_n 0 (mx_da t_X1_addClerk 0 rfl) rfl rfl rfl rfl ?_
  refine mx_getI fs_RX1_54 rfl (cat_s T ha) (mx_da t_X1_addClerk 1 rfl) rfl ?_
  refine mx_iconst (v := 4) (mx_da t_X1_addClerk 2 rfl) rfl rfl ?_
  refine mx_icmp_ge 58 (mx_da t_X1_addClerk 3 rfl) rfl rfl (fun g9 => ?_) (fun g9 => ?_)
  · have h := h.1 g9
    exact mx_vret rfl (mx_da t_X1_addClerk 34 rfl) h
  · have h := h.2 g9
    refine mx_aload_n 0 (mx_da t_X1_addClerk 4 rfl) rfl rfl rfl rfl ?_
    refine mx_getR (a + 5) fs_RX1_25 rfl (cat_s T ha) (cat_r4 T ha) (mx_da t_X1_addClerk 5 rfl) rfl ?_
    refine mx_aload_n 0 (mx_da t_X1_addClerk 6 rfl) rfl rfl rfl rfl ?_
    refine mx_getI fs_RX1_54 rfl (cat_s T ha) (mx_da t_X1_addClerk 7 rfl) rfl ?_
    refine mx_iconst (v := 0) (mx_da t_X1_addClerk 8 rfl) rfl rfl ?_
    refine mx_iast (cat_a4 T ha) h.1 (mx_da t_X1_addClerk 9 rfl) rfl ?_
    have h := h.2
    refine mx_gen (mx_setI M (a + 5) ((mx_I M a 13).toNatClampNeg) 0) (fun M1 e9 => ?_)
    have h := h _ e9
    have T : mx_Tp M1 := tp_e e9 T
    refine mx_aload_n 0 (mx_da t_X1_addClerk 10 rfl) rfl rfl rfl rfl ?_
    refine mx_getR (a + 9) fs_RX1_37 rfl (cat_s T ha) (cat_r8 T ha) (mx_da t_X1_addClerk 11 rfl) rfl ?_
    refine mx_aload_n 0 (mx_da t_X1_addClerk 12 rfl) rfl rfl rfl rfl ?_
    refine mx_getI fs_RX1_54 rfl (cat_s T ha) (mx_da t_X1_addClerk 13 rfl) rfl ?_
    refine mx_iconst (v := 0) (mx_da t_X1_addClerk 14 rfl) rfl rfl ?_
    refine mx_zast (cat_a8 T ha) h.1 (mx_da t_X1_addClerk 15 rfl) rfl ?_
    have h := h.2
    refine mx_gen (mx_setI M1 (a + 9) ((mx_I M1 a 13).toNatClampNeg) (vp_nar .boolean 0)) (fun M2 e9 => ?_)
    have h := h _ e9
    have T : mx_Tp M2 := tp_e e9 T
    refine mx_aload_n 0 (mx_da t_X1_addClerk 16 rfl) rfl rfl rfl rfl ?_
    refine mx_getR (a + 10) fs_RX1_41 rfl (cat_s T ha) (cat_r9 T ha) (mx_da t_X1_addClerk 17 rfl) rfl ?_
    refine mx_aload_n 0 (mx_da t_X1_addClerk 18 rfl) rfl rfl rfl rfl ?_
    refine mx_getI fs_RX1_54 rfl (cat_s T ha) (mx_da t_X1_addClerk 19 rfl) rfl ?_
    refine mx_iconst (v := 0) (mx_da t_X1_addClerk 20 rfl) rfl rfl ?_
    refine mx_zast (cat_a9 T ha) h.1 (mx_da t_X1_addClerk 21 rfl) rfl ?_
    have h := h.2
    refine mx_gen (mx_setI M2 (a + 10) ((mx_I M2 a 13).toNatClampNeg) (vp_nar .boolean 0)) (fun M3 e9 => ?_)
    have h := h _ e9
    have T : mx_Tp M3 := tp_e e9 T
    refine mx_aload_n 0 (mx_da t_X1_addClerk 22 rfl) rfl rfl rfl rfl ?_
    refine mx_getR (a + 11) fs_RX1_44 rfl (cat_s T ha) (cat_r10 T ha) (mx_da t_X1_addClerk 23 rfl) rfl ?_
    refine mx_aload_n 0 (mx_da t_X1_addClerk 24 rfl) rfl rfl rfl rfl ?_
    refine mx_getI fs_RX1_54 rfl (cat_s T ha) (mx_da t_X1_addClerk 25 rfl) rfl ?_
    refine mx_iconst (v := 0) (mx_da t_X1_addClerk 26 rfl) rfl rfl ?_
    refine mx_zast (cat_a10 T ha) h.1 (mx_da t_X1_addClerk 27 rfl) rfl ?_
    have h := h.2
    refine mx_gen (mx_setI M3 (a + 11) ((mx_I M3 a 13).toNatClampNeg) (vp_nar .boolean 0)) (fun M4 e9 => ?_)
    have h := h _ e9
    have T : mx_Tp M4 := tp_e e9 T
    refine mx_aload_n 0 (mx_da t_X1_addClerk 28 rfl) rfl rfl rfl rfl ?_
    refine mx_dup (mx_da t_X1_addClerk 29 rfl) rfl rfl ?_
    refine mx_getI fs_RX1_54 rfl (cat_s T ha) (mx_da t_X1_addClerk 30 rfl) rfl ?_
    refine mx_iconst (v := 1) (mx_da t_X1_addClerk 31 rfl) rfl rfl ?_
    refine mx_iadd (mx_da t_X1_addClerk 32 rfl) rfl ?_
    refine mx_putI fs_RX1_54 rfl (cat_s T ha) rfl rfl rfl (mx_da t_X1_addClerk 33 rfl) rfl ?_
    refine mx_gen (mx_setI M4 a 13 ((mx_I M4 a 13) + 1)) (fun M5 e9 => ?_)
    have h := h _ e9
    have T : mx_Tp M5 := tp_e e9 T
    exact mx_vret rfl (mx_da t_X1_addClerk 34 rfl) h
set_option maxHeartbeats 1000000 in
theorem x_X1_addRule_0 {d : Nat} {M : mx_M} {Q : mx_O → mx_M → Prop} (T : mx_Tp M) (a : Nat) (ha : mx_Cat a) (v1 : Int32) (v2 : Int64) (v4 : Int64)
    (h : ((((mx_I M a 13) - 1) < 0 → Q (.inl none) M) ∧ (¬ ((mx_I M a 13) - 1) < 0 → (vp_in ((mx_I M a 13) - 1) 4 ∧ (((8 : Int32) ≤ (mx_I M (a + 5) ((mx_I M a 13) - 1).toNatClampNeg) → Q (.inl none) M) ∧ (¬ (8 : Int32) ≤ (mx_I M (a + 5) ((mx_I M a 13) - 1).toNatClampNeg) → (vp_in ((mx_I M a 13) - 1) 4 ∧ (vp_in ((((mx_I M a 13) - 1) * 8) + (mx_I M (a + 5) ((mx_I M a 13) - 1).toNatClampNeg)) 32 ∧ (∀ M1, M1 = mx_setI M (a + 6) (((((mx_I M a 13) - 1) * 8) + (mx_I M (a + 5) ((mx_I M a 13) - 1).toNatClampNeg)).toNatClampNeg) v1 → (vp_in ((((mx_I M a 13) - 1) * 8) + (mx_I M (a + 5) ((mx_I M a 13) - 1).toNatClampNeg)) 32 ∧ (∀ M2, M2 = mx_setJ M1 (a + 7) (((((mx_I M a 13) - 1) * 8) + (mx_I M (a + 5) ((mx_I M a 13) - 1).toNatClampNeg)).toNatClampNeg) v2 → (vp_in ((((mx_I M a 13) - 1) * 8) + (mx_I M (a + 5) ((mx_I M a 13) - 1).toNatClampNeg)) 32 ∧ (∀ M3, M3 = mx_setJ M2 (a + 8) (((((mx_I M a 13) - 1) * 8) + (mx_I M (a + 5) ((mx_I M a 13) - 1).toNatClampNeg)).toNatClampNeg) v4 → (vp_in ((mx_I M a 13) - 1) 4 ∧ (vp_in ((mx_I M a 13) - 1) 4 ∧ (∀ M4, M4 = mx_setI M3 (a + 5) (((mx_I M a 13) - 1).toNatClampNeg) ((mx_I M3 (a + 5) ((mx_I M a 13) - 1).toNatClampNeg) + 1) → Q (.inl none) M4)))))))))))))))) :
    mx_W m_X1_addRule d 0 [.ref a, .int v1, .long v2, .retAddr 0, .long v4, .retAddr 0, .retAddr 0, .retAddr 0] [] M Q := by
  refine mx_aload_n 0 (mx_da t_X1_addRule 0 rfl) rfl rfl rfl rfl ?_
  refine mx_getI fs_RX1_54 rfl (cat_s T ha) (mx_da t_X1_addRule 1 rfl) rfl ?_
  refine mx_iconst (v := 1) (mx_da t_X1_addRule 2 rfl) rfl rfl ?_
  refine mx_isub (mx_da t_X1_addRule 3 rfl) rfl ?_
  refine mx_istore 6 [.ref a, .int v1, .long v2, .retAddr 0, .long v4, .retAddr 0, .int ((mx_I M a 13) - 1), .retAddr 0] (mx_da t_X1_addRule 4 rfl) rfl (by decide) rfl ?_
  refine mx_iload 6 (mx_da t_X1_addRule 5 rfl) rfl rfl ?_
  refine mx_if_lt 76 (mx_da t_X1_addRule 6 rfl) rfl rfl (fun g9 => ?_) (fun g9 => ?_)
  · have h := h.1 g9
    exact mx_vret rfl (mx_da t_X1_addRule 45 rfl) h
  · have h := h.2 g9
    refine mx_aload_n 0 (mx_da t_X1_addRule 7 rfl) rfl rfl rfl rfl ?_
    refine mx_getR (a + 5) fs_RX1_25 rfl (cat_s T ha) (cat_r4 T ha) (mx_da t_X1_addRule 8 rfl) rfl ?_
    refine mx_iload 6 (mx_da t_X1_addRule 9 rfl) rfl rfl ?_
    refine mx_iald (cat_a4 T ha) h.1 (mx_da t_X1_addRule 10 rfl) rfl ?_
    have h := h.2
    refine mx_bipush (v := 8) (mx_da t_X1_addRule 11 rfl) rfl rfl ?_
    refine mx_icmp_ge 76 (mx_da t_X1_addRule 12 rfl) rfl rfl (fun g9 => ?_) (fun g9 => ?_)
    · have h := h.1 g9
      exact mx_vret rfl (mx_da t_X1_addRule 45 rfl) h
    · have h := h.2 g9
      refine mx_iload 6 (mx_da t_X1_addRule 13 rfl) rfl rfl ?_
      refine mx_bipush (v := 8) (mx_da t_X1_addRule 14 rfl) rfl rfl ?_
      refine mx_imul (mx_da t_X1_addRule 15 rfl) rfl ?_
      refine mx_aload_n 0 (mx_da t_X1_addRule 16 rfl) rfl rfl rfl rfl ?_
      refine mx_getR (a + 5) fs_RX1_25 rfl (cat_s T ha) (cat_r4 T ha) (mx_da t_X1_addRule 17 rfl) rfl ?_
      refine mx_iload 6 (mx_da t_X1_addRule 18 rfl) rfl rfl ?_
      refine mx_iald (cat_a4 T ha) h.1 (mx_da t_X1_addRule 19 rfl) rfl ?_
      have h := h.2
      refine mx_iadd (mx_da t_X1_addRule 20 rfl) rfl ?_
      refine mx_istore 7 [.ref a, .int v1, .long v2, .retAddr 0, .long v4, .retAddr 0, .int ((mx_I M a 13) - 1), .int ((((mx_I M a 13) - 1) * 8) + (mx_I M (a + 5) ((mx_I M a 13) - 1).toNatClampNeg))] (mx_da t_X1_addRule 21 rfl) rfl (by decide) rfl ?_
      refine mx_aload_n 0 (mx_da t_X1_addRule 22 rfl) rfl rfl rfl rfl ?_
      refine mx_getR (a + 6) fs_RX1_28 rfl (cat_s T ha) (cat_r5 T ha) (mx_da t_X1_addRule 23 rfl) rfl ?_
      refine mx_iload 7 (mx_da t_X1_addRule 24 rfl) rfl rfl ?_
      refine mx_iload_n 1 (mx_da t_X1_addRule 25 rfl) rfl rfl rfl ?_
      refine mx_iast (cat_a5 T ha) h.1 (mx_da t_X1_addRule 26 rfl) rfl ?_
      have h := h.2
      refine mx_gen (mx_setI M (a + 6) (((((mx_I M a 13) - 1) * 8) + (mx_I M (a + 5) ((mx_I M a 13) - 1).toNatClampNeg)).toNatClampNeg) v1) (fun M1 e9 => ?_)
      have h := h _ e9
      have T : mx_Tp M1 := tp_e e9 T
      refine mx_aload_n 0 (mx_da t_X1_addRule 27 rfl) rfl rfl rfl rfl ?_
      refine mx_getR (a + 7) fs_RX1_31 rfl (cat_s T ha) (cat_r6 T ha) (mx_da t_X1_addRule 28 rfl) rfl ?_
      refine mx_iload 7 (mx_da t_X1_addRule 29 rfl) rfl rfl ?_
      refine mx_lload_n 2 (mx_da t_X1_addRule 30 rfl) rfl rfl rfl ?_
      refine mx_last (cat_a6 T ha) h.1 (mx_da t_X1_addRule 31 rfl) rfl ?_
      have h := h.2
      refine mx_gen (mx_setJ M1 (a + 7) (((((mx_I M a 13) - 1) * 8) + (mx_I M (a + 5) ((mx_I M a 13) - 1).toNatClampNeg)).toNatClampNeg) v2) (fun M2 e9 => ?_)
      have h := h _ e9
      have T : mx_Tp M2 := tp_e e9 T
      refine mx_aload_n 0 (mx_da t_X1_addRule 32 rfl) rfl rfl rfl rfl ?_
      refine mx_getR (a + 8) fs_RX1_34 rfl (cat_s T ha) (cat_r7 T ha) (mx_da t_X1_addRule 33 rfl) rfl ?_
      refine mx_iload 7 (mx_da t_X1_addRule 34 rfl) rfl rfl ?_
      refine mx_lload 4 (mx_da t_X1_addRule 35 rfl) rfl rfl ?_
      refine mx_last (cat_a7 T ha) h.1 (mx_da t_X1_addRule 36 rfl) rfl ?_
      have h := h.2
      refine mx_gen (mx_setJ M2 (a + 8) (((((mx_I M a 13) - 1) * 8) + (mx_I M (a + 5) ((mx_I M a 13) - 1).toNatClampNeg)).toNatClampNeg) v4) (fun M3 e9 => ?_)
      have h := h _ e9
      have T : mx_Tp M3 := tp_e e9 T
      refine mx_aload_n 0 (mx_da t_X1_addRule 37 rfl) rfl rfl rfl rfl ?_
      refine mx_getR (a + 5) fs_RX1_25 rfl (cat_s T ha) (cat_r4 T ha) (mx_da t_X1_addRule 38 rfl) rfl ?_
      refine mx_iload 6 (mx_da t_X1_addRule 39 rfl) rfl rfl ?_
      refine mx_dup2 (mx_da t_X1_addRule 40 rfl) rfl rfl rfl ?_
      refine mx_iald (cat_a4 T ha) h.1 (mx_da t_X1_addRule 41 rfl) rfl ?_
      have h := h.2
      refine mx_iconst (v := 1) (mx_da t_X1_addRule 42 rfl) rfl rfl ?_
      refine mx_iadd (mx_da t_X1_addRule 43 rfl) rfl ?_
      refine mx_iast (cat_a4 T ha) h.1 (mx_da t_X1_addRule 44 rfl) rfl ?_
      have h := h.2
      refine mx_gen (mx_setI M3 (a + 5) (((mx_I M a 13) - 1).toNatClampNeg) ((mx_I M3 (a + 5) ((mx_I M a 13) - 1).toNatClampNeg) + 1)) (fun M4 e9 => ?_)
      have h := h _ e9
      have T : mx_Tp M4 := tp_e e9 T
      exact mx_vret rfl (mx_da t_X1_addRule 45 rfl) h
set_option maxHeartbeats 1000000 in
theorem x_X1_ruleOf_0 {d : Nat} {M : mx_M} {Q : mx_O → mx_M → Prop} (T : mx_Tp M) (a : Nat) (ha : mx_Cat a) (v1 : Int32) (v2 : Int32) (v3 : Int64)
    (h : mx_W m_X1_ruleOf d 3 [.ref a, .int v1, .int v2, .long v3, .retAddr 0, .int 0, .retAddr 0] [] M Q) :
    mx_W m_X1_ruleOf d 0 [.ref a, .int v1, .int v2, .long v3, .retAddr 0, .retAddr 0, .retAddr 0] [] M Q := by
  refine mx_iconst (v := 0) (mx_da t_X1_ruleOf 0 rfl) rfl rfl ?_
  refine mx_istore 5 [.ref a, .int v1, .int v2, .long v3, .retAddr 0, .int 0, .retAddr 0] (mx_da t_X1_ruleOf 1 rfl) rfl (by decide) rfl ?_
  exact h
set_option maxHeartbeats 1000000 in
theorem x_X1_ruleOf_3 {d : Nat} {M : mx_M} {Q : mx_O → mx_M → Prop} (T : mx_Tp M) (a : Nat) (ha : mx_Cat a) (v1 : Int32) (v2 : Int32) (v3 : Int64) (v5 : Int32)
    (h : (vp_in v1 4 ∧ (((mx_I M (a + 5) v1.toNatClampNeg) ≤ v5 → Q (.inl (some (.int (-1)))) M) ∧ (¬ (mx_I M (a + 5) v1.toNatClampNeg) ≤ v5 → (vp_in ((v1 * 8) + v5) 32 ∧ ((¬ (mx_I M (a + 6) ((v1 * 8) + v5).toNatClampNeg) = v2 → mx_W m_X1_ruleOf d 3 [.ref a, .int v1, .int v2, .long v3, .retAddr 0, .int (v5 + 1), .retAddr 0] [] M Q) ∧ ((mx_I M (a + 6) ((v1 * 8) + v5).toNatClampNeg) = v2 → (vp_in ((v1 * 8) + v5) 32 ∧ ((¬ mx_J M (a + 7) ((v1 * 8) + v5).toNatClampNeg = v3 → mx_W m_X1_ruleOf d 3 [.ref a, .int v1, .int v2, .long v3, .retAddr 0, .int (v5 + 1), .retAddr 0] [] M Q) ∧ (mx_J M (a + 7) ((v1 * 8) + v5).toNatClampNeg = v3 → Q (.inl (some (.int v5))) M)))))))))) :
    mx_W m_X1_ruleOf d 3 [.ref a, .int v1, .int v2, .long v3, .retAddr 0, .int v5, .retAddr 0] [] M Q := by
  refine mx_iload 5 (mx_da t_X1_ruleOf 2 rfl) rfl rfl ?_
  refine mx_aload_n 0 (mx_da t_X1_ruleOf 3 rfl) rfl rfl rfl rfl ?_
  refine mx_getR (a + 5) fs_RX1_25 rfl (cat_s T ha) (cat_r4 T ha) (mx_da t_X1_ruleOf 4 rfl) rfl ?_
  refine mx_iload_n 1 (mx_da t_X1_ruleOf 5 rfl) rfl rfl rfl ?_
  refine mx_iald (cat_a4 T ha) h.1 (mx_da t_X1_ruleOf 6 rfl) rfl ?_
  have h := h.2
  refine mx_icmp_ge 55 (mx_da t_X1_ruleOf 7 rfl) rfl rfl (fun g9 => ?_) (fun g9 => ?_)
  · have h := h.1 g9
    refine mx_iconst (v := (-1)) (mx_da t_X1_ruleOf 31 rfl) rfl rfl ?_
    exact mx_iret rfl (mx_da t_X1_ruleOf 32 rfl) h
  · have h := h.2 g9
    refine mx_iload_n 1 (mx_da t_X1_ruleOf 8 rfl) rfl rfl rfl ?_
    refine mx_bipush (v := 8) (mx_da t_X1_ruleOf 9 rfl) rfl rfl ?_
    refine mx_imul (mx_da t_X1_ruleOf 10 rfl) rfl ?_
    refine mx_iload 5 (mx_da t_X1_ruleOf 11 rfl) rfl rfl ?_
    refine mx_iadd (mx_da t_X1_ruleOf 12 rfl) rfl ?_
    refine mx_istore 6 [.ref a, .int v1, .int v2, .long v3, .retAddr 0, .int v5, .int ((v1 * 8) + v5)] (mx_da t_X1_ruleOf 13 rfl) rfl (by decide) rfl ?_
    refine mx_aload_n 0 (mx_da t_X1_ruleOf 14 rfl) rfl rfl rfl rfl ?_
    refine mx_getR (a + 6) fs_RX1_28 rfl (cat_s T ha) (cat_r5 T ha) (mx_da t_X1_ruleOf 15 rfl) rfl ?_
    refine mx_iload 6 (mx_da t_X1_ruleOf 16 rfl) rfl rfl ?_
    refine mx_iald (cat_a5 T ha) h.1 (mx_da t_X1_ruleOf 17 rfl) rfl ?_
    have h := h.2
    refine mx_iload_n 2 (mx_da t_X1_ruleOf 18 rfl) rfl rfl rfl ?_
    refine mx_icmp_ne 49 (mx_da t_X1_ruleOf 19 rfl) rfl rfl (fun g9 => ?_) (fun g9 => ?_)
    · have h := h.1 g9
      refine mx_iinc 5 (v := v5 + 1) [.ref a, .int v1, .int v2, .long v3, .retAddr 0, .int (v5 + 1), .int ((v1 * 8) + v5)] (mx_da t_X1_ruleOf 29 rfl) rfl (by decide) rfl rfl rfl ?_
      refine mx_goto (n := 3) (mx_da t_X1_ruleOf 30 rfl) rfl ?_
      exact mx_wkn [.ref a, .int v1, .int v2, .long v3, .retAddr 0, .int (v5 + 1), .retAddr 0] ⟨Or.inr rfl, Or.inr rfl, Or.inr rfl, Or.inr rfl, Or.inr rfl, Or.inr rfl, Or.inl rfl, trivial⟩ h
    · have h := h.2 g9
      refine mx_aload_n 0 (mx_da t_X1_ruleOf 20 rfl) rfl rfl rfl rfl ?_
      refine mx_getR (a + 7) fs_RX1_31 rfl (cat_s T ha) (cat_r6 T ha) (mx_da t_X1_ruleOf 21 rfl) rfl ?_
      refine mx_iload 6 (mx_da t_X1_ruleOf 22 rfl) rfl rfl ?_
      refine mx_lald (cat_a6 T ha) h.1 (mx_da t_X1_ruleOf 23 rfl) rfl ?_
      have h := h.2
      refine mx_lload_n 3 (mx_da t_X1_ruleOf 24 rfl) rfl rfl rfl ?_
      refine mx_lcmp (mx_da t_X1_ruleOf 25 rfl) rfl ?_
      refine mx_if_ne 49 (mx_da t_X1_ruleOf 26 rfl) rfl rfl (fun g9 => ?_) (fun g9 => ?_)
      · have h := h.1 (mx_lcn.mp g9)
        refine mx_iinc 5 (v := v5 + 1) [.ref a, .int v1, .int v2, .long v3, .retAddr 0, .int (v5 + 1), .int ((v1 * 8) + v5)] (mx_da t_X1_ruleOf 29 rfl) rfl (by decide) rfl rfl rfl ?_
        refine mx_goto (n := 3) (mx_da t_X1_ruleOf 30 rfl) rfl ?_
        exact mx_wkn [.ref a, .int v1, .int v2, .long v3, .retAddr 0, .int (v5 + 1), .retAddr 0] ⟨Or.inr rfl, Or.inr rfl, Or.inr rfl, Or.inr rfl, Or.inr rfl, Or.inr rfl, Or.inl rfl, trivial⟩ h
      · have h := h.2 (mx_lc0.mp g9)
        refine mx_iload 5 (mx_da t_X1_ruleOf 27 rfl) rfl rfl ?_
        exact mx_iret rfl (mx_da t_X1_ruleOf 28 rfl) h
set_option maxHeartbeats 1000000 in
theorem x_X2_setHurt_0 {d : Nat} {M : mx_M} {Q : mx_O → mx_M → Prop} (T : mx_Tp M) (v1 : Int32) (v2 : Int32) (v3 : Int32)
    (h : (vp_in ((v1 * 10) + v2) 100 ∧ (∀ M1, M1 = mx_setI M 40 (((v1 * 10) + v2).toNatClampNeg) v3 → Q (.inl none) M1))) :
    mx_W m_X2_setHurt d 0 [.ref 39, .int v1, .int v2, .int v3] [] M Q := by
  refine mx_aload_n 0 (mx_da t_X2_setHurt 0 rfl) rfl rfl rfl rfl ?_
  refine mx_getR 40 fs_RX2_9 rfl (tp_s T 39 rfl) (tp_r T 37 rfl) (mx_da t_X2_setHurt 1 rfl) rfl ?_
  refine mx_iload_n 1 (mx_da t_X2_setHurt 2 rfl) rfl rfl rfl ?_
  refine mx_bipush (v := 10) (mx_da t_X2_setHurt 3 rfl) rfl rfl ?_
  refine mx_imul (mx_da t_X2_setHurt 4 rfl) rfl ?_
  refine mx_iload_n 2 (mx_da t_X2_setHurt 5 rfl) rfl rfl rfl ?_
  refine mx_iadd (mx_da t_X2_setHurt 6 rfl) rfl ?_
  refine mx_iload_n 3 (mx_da t_X2_setHurt 7 rfl) rfl rfl rfl ?_
  refine mx_iast (tp_s T 40 rfl) h.1 (mx_da t_X2_setHurt 8 rfl) rfl ?_
  have h := h.2
  refine mx_gen (mx_setI M 40 (((v1 * 10) + v2).toNatClampNeg) v3) (fun M1 e9 => ?_)
  have h := h _ e9
  have T : mx_Tp M1 := tp_e e9 T
  exact mx_vret rfl (mx_da t_X2_setHurt 9 rfl) h
set_option maxHeartbeats 1000000 in
theorem x_X2_settle_0 {d : Nat} {M : mx_M} {Q : mx_O → mx_M → Prop} (T : mx_Tp M) (v1 : Int32)
    (h : (∀ M1, M1 = mx_setI M 41 0 0 → mx_W m_X2_settle (d + 1) 15 [.ref 39, .int v1, .int ((1 <<< (v1 &&& 31)) - 1), .int 1, .retAddr 0] [] M1 Q)) :
    mx_W m_X2_settle (d + 1) 0 [.ref 39, .int v1, .retAddr 0, .retAddr 0, .retAddr 0] [] M Q := by
  refine mx_iconst (v := 1) (mx_da t_X2_settle 0 rfl) rfl rfl ?_
  refine mx_iload_n 1 (mx_da t_X2_settle 1 rfl) rfl rfl rfl ?_
  refine mx_ishl (mx_da t_X2_settle 2 rfl) rfl ?_
  refine mx_iconst (v := 1) (mx_da t_X2_settle 3 rfl) rfl rfl ?_
  refine mx_isub (mx_da t_X2_settle 4 rfl) rfl ?_
  refine mx_istore_n 2 [.ref 39, .int v1, .int ((1 <<< (v1 &&& 31)) - 1), .retAddr 0, .retAddr 0] (mx_da t_X2_settle 5 rfl) rfl rfl (by decide) rfl ?_
  refine mx_aload_n 0 (mx_da t_X2_settle 6 rfl) rfl rfl rfl rfl ?_
  refine mx_getR 41 fs_RX2_15 rfl (tp_s T 39 rfl) (tp_r T 38 rfl) (mx_da t_X2_settle 7 rfl) rfl ?_
  refine mx_iconst (v := 0) (mx_da t_X2_settle 8 rfl) rfl rfl ?_
  refine mx_iconst (v := 0) (mx_da t_X2_settle 9 rfl) rfl rfl ?_
  refine mx_iast (tp_s T 41 rfl) (mx_vin rfl) (mx_da t_X2_settle 10 rfl) rfl ?_
  refine mx_gen (mx_setI M 41 0 0) (fun M1 e9 => ?_)
  have h := h _ e9
  have T : mx_Tp M1 := tp_e e9 T
  refine mx_iconst (v := 1) (mx_da t_X2_settle 11 rfl) rfl rfl ?_
  refine mx_istore_n 3 [.ref 39, .int v1, .int ((1 <<< (v1 &&& 31)) - 1), .int 1, .retAddr 0] (mx_da t_X2_settle 12 rfl) rfl rfl (by decide) rfl ?_
  exact h
set_option maxHeartbeats 1000000 in
theorem x_X2_settle_15 {d : Nat} {M : mx_M} {Q : mx_O → mx_M → Prop} (T : mx_Tp M) (v1 : Int32) (v2 : Int32) (v3 : Int32)
    (h : ((v2 < v3 → (vp_in v2 1024 ∧ (∀ M1, M1 = mx_setI M 39 3 (mx_I M 41 v2.toNatClampNeg) → mx_W m_X2_settle (d + 1) 59 [.ref 39, .int v1, .retAddr 0, .int v2, .int 0] [] M1 Q))) ∧ (¬ v2 < v3 → (mx_W m_X2_bestFirst d 0 [.ref 39, .int v3, .int v1, .retAddr 0, .retAddr 0, .retAddr 0, .retAddr 0] [] M (fun o M2 => mx_sh M2 = mx_sh M ∧ mx_R M2 = mx_R M ∧ (∃ x3 : Int32, o = .inl (some (.int x3)) ∧ (mx_W m_X2_hurtWithFirst d 0 [.ref 39, .int v3, .int x3, .int v1, .retAddr 0, .retAddr 0, .retAddr 0] [] M2 (fun o M4 => mx_sh M4 = mx_sh M2 ∧ mx_R M4 = mx_R M2 ∧ (∃ x5 : Int32, o = .inl (some (.int x5)) ∧ (vp_in v3 1024 ∧ (∀ M6, M6 = mx_setI M4 41 (v3.toNatClampNeg) x5 → mx_W m_X2_settle (d + 1) 15 [.ref 39, .int v1, .int v2, .int (v3 + 1), .retAddr 0] [] M6 Q))))))))))) :
    mx_W m_X2_settle (d + 1) 15 [.ref 39, .int v1, .int v2, .int v3, .retAddr 0] [] M Q := by
  refine mx_iload_n 3 (mx_da t_X2_settle 13 rfl) rfl rfl rfl ?_
  refine mx_iload_n 2 (mx_da t_X2_settle 14 rfl) rfl rfl rfl ?_
  refine mx_icmp_gt 44 (mx_da t_X2_settle 15 rfl) rfl rfl (fun g9 => ?_) (fun g9 => ?_)
  · have h := h.1 g9
    refine mx_aload_n 0 (mx_da t_X2_settle 30 rfl) rfl rfl rfl rfl ?_
    refine mx_aload_n 0 (mx_da t_X2_settle 31 rfl) rfl rfl rfl rfl ?_
    refine mx_getR 41 fs_RX2_15 rfl (tp_s T 39 rfl) (tp_r T 38 rfl) (mx_da t_X2_settle 32 rfl) rfl ?_
    refine mx_iload_n 2 (mx_da t_X2_settle 33 rfl) rfl rfl rfl ?_
    refine mx_iald (tp_s T 41 rfl) h.1 (mx_da t_X2_settle 34 rfl) rfl ?_
    have h := h.2
    refine mx_putI fs_RX2_21 rfl (tp_s T 39 rfl) rfl rfl rfl (mx_da t_X2_settle 35 rfl) rfl ?_
    refine mx_gen (mx_setI M 39 3 (mx_I M 41 v2.toNatClampNeg)) (fun M1 e9 => ?_)
    have h := h _ e9
    have T : mx_Tp M1 := tp_e e9 T
    refine mx_iload_n 2 (mx_da t_X2_settle 36 rfl) rfl rfl rfl ?_
    refine mx_istore_n 3 [.ref 39, .int v1, .int v2, .int v2, .retAddr 0] (mx_da t_X2_settle 37 rfl) rfl rfl (by decide) rfl ?_
    refine mx_iconst (v := 0) (mx_da t_X2_settle 38 rfl) rfl rfl ?_
    refine mx_istore 4 [.ref 39, .int v1, .int v2, .int v2, .int 0] (mx_da t_X2_settle 39 rfl) rfl (by decide) rfl ?_
    exact mx_wkn [.ref 39, .int v1, .retAddr 0, .int v2, .int 0] ⟨Or.inr rfl, Or.inr rfl, Or.inl rfl, Or.inr rfl, Or.inr rfl, trivial⟩ h
  · have h := h.2 g9
    refine mx_aload_n 0 (mx_da t_X2_settle 16 rfl) rfl rfl rfl rfl ?_
    refine mx_getR 41 fs_RX2_15 rfl (tp_s T 39 rfl) (tp_r T 38 rfl) (mx_da t_X2_settle 17 rfl) rfl ?_
    refine mx_iload_n 3 (mx_da t_X2_settle 18 rfl) rfl rfl rfl ?_
    refine mx_aload_n 0 (mx_da t_X2_settle 19 rfl) rfl rfl rfl rfl ?_
    refine mx_iload_n 3 (mx_da t_X2_settle 20 rfl) rfl rfl rfl ?_
    refine mx_aload_n 0 (mx_da t_X2_settle 21 rfl) rfl rfl rfl rfl ?_
    refine mx_iload_n 3 (mx_da t_X2_settle 22 rfl) rfl rfl rfl ?_
    refine mx_iload_n 1 (mx_da t_X2_settle 23 rfl) rfl rfl rfl ?_
    refine mx_callV yX2_bestFirst m_X2_bestFirst [.int v3, .int v1] mm_X2_bestFirst ml_RX2_29 im_X2_bestFirst se_X2_bestFirst (tp_s T 39 rfl) rfl rfl (Nat.le_of_ble_eq_true rfl) (mx_da t_X2_settle 24 rfl) rfl (Nat.le_of_ble_eq_true rfl) rfl ?_
    refine mx_mono h ?_
    intro o M2 ho
    obtain ⟨e1, e2, ho⟩ := ho
    obtain ⟨x3, rfl, h⟩ := ho
    refine ⟨e1, ?_⟩
    have T := tp_of e1 e2 T
    clear e1 e2
    show mx_W m_X2_settle (d + 1) 33 [.ref 39, .int v1, .int v2, .int v3, .retAddr 0] [.int x3, .int v3, .ref 39, .int v3, .ref 41] M2 Q
    refine mx_iload_n 1 (mx_da t_X2_settle 25 rfl) rfl rfl rfl ?_
    refine mx_callV yX2_hurtWithFirst m_X2_hurtWithFirst [.int v3, .int x3, .int v1] mm_X2_hurtWithFirst ml_RX2_33 im_X2_hurtWithFirst se_X2_hurtWithFirst (tp_s T 39 rfl) rfl rfl (Nat.le_of_ble_eq_true rfl) (mx_da t_X2_settle 26 rfl) rfl (Nat.le_of_ble_eq_true rfl) rfl ?_
    refine mx_mono h ?_
    intro o M4 ho
    obtain ⟨e1, e2, ho⟩ := ho
    obtain ⟨x5, rfl, h⟩ := ho
    refine ⟨e1, ?_⟩
    have T := tp_of e1 e2 T
    clear e1 e2
    show mx_W m_X2_settle (d + 1) 37 [.ref 39, .int v1, .int v2, .int v3, .retAddr 0] [.int x5, .int v3, .ref 41] M4 Q
    refine mx_iast (tp_s T 41 rfl) h.1 (mx_da t_X2_settle 27 rfl) rfl ?_
    have h := h.2
    refine mx_gen (mx_setI M4 41 (v3.toNatClampNeg) x5) (fun M6 e9 => ?_)
    have h := h _ e9
    have T : mx_Tp M6 := tp_e e9 T
    refine mx_iinc 3 (v := v3 + 1) [.ref 39, .int v1, .int v2, .int (v3 + 1), .retAddr 0] (mx_da t_X2_settle 28 rfl) rfl (by decide) rfl rfl rfl ?_
    refine mx_goto (n := 15) (mx_da t_X2_settle 29 rfl) rfl ?_
    exact h
set_option maxHeartbeats 1000000 in
theorem x_X2_settle_59 {d : Nat} {M : mx_M} {Q : mx_O → mx_M → Prop} (T : mx_Tp M) (v1 : Int32) (v3 : Int32) (v4 : Int32)
    (h : ((v1 ≤ v4 → (∀ M1, M1 = mx_setI M 39 4 1 → Q (.inl none) M1)) ∧ (¬ v1 ≤ v4 → (mx_W m_X2_bestFirst d 0 [.ref 39, .int v3, .int v1, .retAddr 0, .retAddr 0, .retAddr 0, .retAddr 0] [] M (fun o M2 => mx_sh M2 = mx_sh M ∧ mx_R M2 = mx_R M ∧ (∃ x3 : Int32, o = .inl (some (.int x3)) ∧ (vp_in v4 10 ∧ (∀ M4, M4 = mx_setI M2 42 (v4.toNatClampNeg) x3 → (vp_in v4 10 ∧ mx_W m_X2_settle (d + 1) 59 [.ref 39, .int v1, .retAddr 0, .int (v3 &&& ((1 <<< ((mx_I M4 42 v4.toNatClampNeg) &&& 31)) ^^^ (-1))), .int (v4 + 1)] [] M4 Q))))))))) :
    mx_W m_X2_settle (d + 1) 59 [.ref 39, .int v1, .retAddr 0, .int v3, .int v4] [] M Q := by
  refine mx_iload 4 (mx_da t_X2_settle 40 rfl) rfl rfl ?_
  refine mx_iload_n 1 (mx_da t_X2_settle 41 rfl) rfl rfl rfl ?_
  refine mx_icmp_ge 98 (mx_da t_X2_settle 42 rfl) rfl rfl (fun g9 => ?_) (fun g9 => ?_)
  · have h := h.1 g9
    refine mx_aload_n 0 (mx_da t_X2_settle 64 rfl) rfl rfl rfl rfl ?_
    refine mx_iconst (v := 1) (mx_da t_X2_settle 65 rfl) rfl rfl ?_
    refine mx_putI fs_RX2_25 rfl (tp_s T 39 rfl) rfl rfl rfl (mx_da t_X2_settle 66 rfl) rfl ?_
    refine mx_gen (mx_setI M 39 4 1) (fun M1 e9 => ?_)
    have h := h _ e9
    have T : mx_Tp M1 := tp_e e9 T
    exact mx_vret rfl (mx_da t_X2_settle 67 rfl) h
  · have h := h.2 g9
    refine mx_aload_n 0 (mx_da t_X2_settle 43 rfl) rfl rfl rfl rfl ?_
    refine mx_getR 42 fs_RX2_18 rfl (tp_s T 39 rfl) (tp_r T 39 rfl) (mx_da t_X2_settle 44 rfl) rfl ?_
    refine mx_iload 4 (mx_da t_X2_settle 45 rfl) rfl rfl ?_
    refine mx_aload_n 0 (mx_da t_X2_settle 46 rfl) rfl rfl rfl rfl ?_
    refine mx_iload_n 3 (mx_da t_X2_settle 47 rfl) rfl rfl rfl ?_
    refine mx_iload_n 1 (mx_da t_X2_settle 48 rfl) rfl rfl rfl ?_
    refine mx_callV yX2_bestFirst m_X2_bestFirst [.int v3, .int v1] mm_X2_bestFirst ml_RX2_29 im_X2_bestFirst se_X2_bestFirst (tp_s T 39 rfl) rfl rfl (Nat.le_of_ble_eq_true rfl) (mx_da t_X2_settle 49 rfl) rfl (Nat.le_of_ble_eq_true rfl) rfl ?_
    refine mx_mono h ?_
    intro o M2 ho
    obtain ⟨e1, e2, ho⟩ := ho
    obtain ⟨x3, rfl, h⟩ := ho
    refine ⟨e1, ?_⟩
    have T := tp_of e1 e2 T
    clear e1 e2
    show mx_W m_X2_settle (d + 1) 77 [.ref 39, .int v1, .retAddr 0, .int v3, .int v4] [.int x3, .int v4, .ref 42] M2 Q
    refine mx_iast (tp_s T 42 rfl) h.1 (mx_da t_X2_settle 50 rfl) rfl ?_
    have h := h.2
    refine mx_gen (mx_setI M2 42 (v4.toNatClampNeg) x3) (fun M4 e9 => ?_)
    have h := h _ e9
    have T : mx_Tp M4 := tp_e e9 T
    refine mx_iload_n 3 (mx_da t_X2_settle 51 rfl) rfl rfl rfl ?_
    refine mx_iconst (v := 1) (mx_da t_X2_settle 52 rfl) rfl rfl ?_
    refine mx_aload_n 0 (mx_da t_X2_settle 53 rfl) rfl rfl rfl rfl ?_
    refine mx_getR 42 fs_RX2_18 rfl (tp_s T 39 rfl) (tp_r T 39 rfl) (mx_da t_X2_settle 54 rfl) rfl ?_
    refine mx_iload 4 (mx_da t_X2_settle 55 rfl) rfl rfl ?_
    refine mx_iald (tp_s T 42 rfl) h.1 (mx_da t_X2_settle 56 rfl) rfl ?_
    have h := h.2
    refine mx_ishl (mx_da t_X2_settle 57 rfl) rfl ?_
    refine mx_iconst (v := (-1)) (mx_da t_X2_settle 58 rfl) rfl rfl ?_
    refine mx_ixor (mx_da t_X2_settle 59 rfl) rfl ?_
    refine mx_iand (mx_da t_X2_settle 60 rfl) rfl ?_
    refine mx_istore_n 3 [.ref 39, .int v1, .retAddr 0, .int (v3 &&& ((1 <<< ((mx_I M4 42 v4.toNatClampNeg) &&& 31)) ^^^ (-1))), .int v4] (mx_da t_X2_settle 61 rfl) rfl rfl (by decide) rfl ?_
    refine mx_iinc 4 (v := v4 + 1) [.ref 39, .int v1, .retAddr 0, .int (v3 &&& ((1 <<< ((mx_I M4 42 v4.toNatClampNeg) &&& 31)) ^^^ (-1))), .int (v4 + 1)] (mx_da t_X2_settle 62 rfl) rfl (by decide) rfl rfl rfl ?_
    refine mx_goto (n := 59) (mx_da t_X2_settle 63 rfl) rfl ?_
    exact h
set_option maxHeartbeats 1000000 in
theorem x_X2_bestFirst_0 {d : Nat} {M : mx_M} {Q : mx_O → mx_M → Prop} (T : mx_Tp M) (v1 : Int32) (v2 : Int32)
    (h : mx_W m_X2_bestFirst (d + 1) 9 [.ref 39, .int v1, .int v2, .int 0, .int 2147483647, .int 0, .retAddr 0] [] M Q) :
    mx_W m_X2_bestFirst (d + 1) 0 [.ref 39, .int v1, .int v2, .retAddr 0, .retAddr 0, .retAddr 0, .retAddr 0] [] M Q := by
  refine mx_iconst (v := 0) (mx_da t_X2_bestFirst 0 rfl) rfl rfl ?_
  refine mx_istore_n 3 [.ref 39, .int v1, .int v2, .int 0, .retAddr 0, .retAddr 0, .retAddr 0] (mx_da t_X2_bestFirst 1 rfl) rfl rfl (by decide) rfl ?_
  refine mx_ldc cn_RX2_39 (mx_da t_X2_bestFirst 2 rfl) rfl ?_
  refine mx_istore 4 [.ref 39, .int v1, .int v2, .int 0, .int 2147483647, .retAddr 0, .retAddr 0] (mx_da t_X2_bestFirst 3 rfl) rfl (by decide) rfl ?_
  refine mx_iconst (v := 0) (mx_da t_X2_bestFirst 4 rfl) rfl rfl ?_
  refine mx_istore 5 [.ref 39, .int v1, .int v2, .int 0, .int 2147483647, .int 0, .retAddr 0] (mx_da t_X2_bestFirst 5 rfl) rfl (by decide) rfl ?_
  exact h
set_option maxHeartbeats 1000000 in
theorem x_X2_bestFirst_9 {d : Nat} {M : mx_M} {Q : mx_O → mx_M → Prop} (T : mx_Tp M) (v1 : Int32) (v2 : Int32) (v3 : Int32) (v4 : Int32) (v5 : Int32)
    (h : ((v2 ≤ v5 → Q (.inl (some (.int v3))) M) ∧ (¬ v2 ≤ v5 → ((¬ ((v1 >>> (v5 &&& 31)) &&& 1) = (1 : Int32) → mx_W m_X2_bestFirst (d + 1) 9 [.ref 39, .int v1, .int v2, .int v3, .int v4, .int (v5 + 1), .retAddr 0] [] M Q) ∧ (((v1 >>> (v5 &&& 31)) &&& 1) = (1 : Int32) → (mx_W m_X2_hurtWithFirst d 0 [.ref 39, .int v1, .int v5, .int v2, .retAddr 0, .retAddr 0, .retAddr 0] [] M (fun o M1 => mx_sh M1 = mx_sh M ∧ mx_R M1 = mx_R M ∧ (∃ x2 : Int32, o = .inl (some (.int x2)) ∧ ((v4 ≤ x2 → mx_W m_X2_bestFirst (d + 1) 9 [.ref 39, .int v1, .int v2, .int v3, .int v4, .int (v5 + 1), .retAddr 0] [] M1 Q) ∧ (¬ v4 ≤ x2 → mx_W m_X2_bestFirst (d + 1) 9 [.ref 39, .int v1, .int v2, .int v5, .int x2, .int (v5 + 1), .retAddr 0] [] M1 Q)))))))))) :
    mx_W m_X2_bestFirst (d + 1) 9 [.ref 39, .int v1, .int v2, .int v3, .int v4, .int v5, .retAddr 0] [] M Q := by
  refine mx_iload 5 (mx_da t_X2_bestFirst 6 rfl) rfl rfl ?_
  refine mx_iload_n 2 (mx_da t_X2_bestFirst 7 rfl) rfl rfl rfl ?_
  refine mx_icmp_ge 55 (mx_da t_X2_bestFirst 8 rfl) rfl rfl (fun g9 => ?_) (fun g9 => ?_)
  · have h := h.1 g9
    refine mx_iload_n 3 (mx_da t_X2_bestFirst 31 rfl) rfl rfl rfl ?_
    exact mx_iret rfl (mx_da t_X2_bestFirst 32 rfl) h
  · have h := h.2 g9
    refine mx_iload_n 1 (mx_da t_X2_bestFirst 9 rfl) rfl rfl rfl ?_
    refine mx_iload 5 (mx_da t_X2_bestFirst 10 rfl) rfl rfl ?_
    refine mx_ishr (mx_da t_X2_bestFirst 11 rfl) rfl ?_
    refine mx_iconst (v := 1) (mx_da t_X2_bestFirst 12 rfl) rfl rfl ?_
    refine mx_iand (mx_da t_X2_bestFirst 13 rfl) rfl ?_
    refine mx_iconst (v := 1) (mx_da t_X2_bestFirst 14 rfl) rfl rfl ?_
    refine mx_icmp_ne 49 (mx_da t_X2_bestFirst 15 rfl) rfl rfl (fun g9 => ?_) (fun g9 => ?_)
    · have h := h.1 g9
      refine mx_iinc 5 (v := v5 + 1) [.ref 39, .int v1, .int v2, .int v3, .int v4, .int (v5 + 1), .retAddr 0] (mx_da t_X2_bestFirst 29 rfl) rfl (by decide) rfl rfl rfl ?_
      refine mx_goto (n := 9) (mx_da t_X2_bestFirst 30 rfl) rfl ?_
      exact h
    · have h := h.2 g9
      refine mx_aload_n 0 (mx_da t_X2_bestFirst 16 rfl) rfl rfl rfl rfl ?_
      refine mx_iload_n 1 (mx_da t_X2_bestFirst 17 rfl) rfl rfl rfl ?_
      refine mx_iload 5 (mx_da t_X2_bestFirst 18 rfl) rfl rfl ?_
      refine mx_iload_n 2 (mx_da t_X2_bestFirst 19 rfl) rfl rfl rfl ?_
      refine mx_callV yX2_hurtWithFirst m_X2_hurtWithFirst [.int v1, .int v5, .int v2] mm_X2_hurtWithFirst ml_RX2_33 im_X2_hurtWithFirst se_X2_hurtWithFirst (tp_s T 39 rfl) rfl rfl (Nat.le_of_ble_eq_true rfl) (mx_da t_X2_bestFirst 20 rfl) rfl (Nat.le_of_ble_eq_true rfl) rfl ?_
      refine mx_mono h ?_
      intro o M1 ho
      obtain ⟨e1, e2, ho⟩ := ho
      obtain ⟨x2, rfl, h⟩ := ho
      refine ⟨e1, ?_⟩
      have T := tp_of e1 e2 T
      clear e1 e2
      show mx_W m_X2_bestFirst (d + 1) 33 [.ref 39, .int v1, .int v2, .int v3, .int v4, .int v5, .retAddr 0] [.int x2] M1 Q
      refine mx_istore 6 [.ref 39, .int v1, .int v2, .int v3, .int v4, .int v5, .int x2] (mx_da t_X2_bestFirst 21 rfl) rfl (by decide) rfl ?_
      refine mx_iload 6 (mx_da t_X2_bestFirst 22 rfl) rfl rfl ?_
      refine mx_iload 4 (mx_da t_X2_bestFirst 23 rfl) rfl rfl ?_
      refine mx_icmp_ge 49 (mx_da t_X2_bestFirst 24 rfl) rfl rfl (fun g9 => ?_) (fun g9 => ?_)
      · have h := h.1 g9
        refine mx_iinc 5 (v := v5 + 1) [.ref 39, .int v1, .int v2, .int v3, .int v4, .int (v5 + 1), .int x2] (mx_da t_X2_bestFirst 29 rfl) rfl (by decide) rfl rfl rfl ?_
        refine mx_goto (n := 9) (mx_da t_X2_bestFirst 30 rfl) rfl ?_
        exact mx_wkn [.ref 39, .int v1, .int v2, .int v3, .int v4, .int (v5 + 1), .retAddr 0] ⟨Or.inr rfl, Or.inr rfl, Or.inr rfl, Or.inr rfl, Or.inr rfl, Or.inr rfl, Or.inl rfl, trivial⟩ h
      · have h := h.2 g9
        refine mx_iload 6 (mx_da t_X2_bestFirst 25 rfl) rfl rfl ?_
        refine mx_istore 4 [.ref 39, .int v1, .int v2, .int v3, .int x2, .int v5, .int x2] (mx_da t_X2_bestFirst 26 rfl) rfl (by decide) rfl ?_
        refine mx_iload 5 (mx_da t_X2_bestFirst 27 rfl) rfl rfl ?_
        refine mx_istore_n 3 [.ref 39, .int v1, .int v2, .int v5, .int x2, .int v5, .int x2] (mx_da t_X2_bestFirst 28 rfl) rfl rfl (by decide) rfl ?_
        refine mx_iinc 5 (v := v5 + 1) [.ref 39, .int v1, .int v2, .int v5, .int x2, .int (v5 + 1), .int x2] (mx_da t_X2_bestFirst 29 rfl) rfl (by decide) rfl rfl rfl ?_
        refine mx_goto (n := 9) (mx_da t_X2_bestFirst 30 rfl) rfl ?_
        exact mx_wkn [.ref 39, .int v1, .int v2, .int v5, .int x2, .int (v5 + 1), .retAddr 0] ⟨Or.inr rfl, Or.inr rfl, Or.inr rfl, Or.inr rfl, Or.inr rfl, Or.inr rfl, Or.inl rfl, trivial⟩ h
set_option maxHeartbeats 1000000 in
theorem x_X2_hurtWithFirst_0 {d : Nat} {M : mx_M} {Q : mx_O → mx_M → Prop} (T : mx_Tp M) (v1 : Int32) (v2 : Int32) (v3 : Int32)
    (h : (vp_in (v1 &&& ((1 <<< (v2 &&& 31)) ^^^ (-1))) 1024 ∧ mx_W m_X2_hurtWithFirst d 21 [.ref 39, .retAddr 0, .int v2, .int v3, .int (v1 &&& ((1 <<< (v2 &&& 31)) ^^^ (-1))), .int (mx_I M 41 (v1 &&& ((1 <<< (v2 &&& 31)) ^^^ (-1))).toNatClampNeg), .int 0] [] M Q)) :
    mx_W m_X2_hurtWithFirst d 0 [.ref 39, .int v1, .int v2, .int v3, .retAddr 0, .retAddr 0, .retAddr 0] [] M Q := by
  refine mx_iload_n 1 (mx_da t_X2_hurtWithFirst 0 rfl) rfl rfl rfl ?_
  refine mx_iconst (v := 1) (mx_da t_X2_hurtWithFirst 1 rfl) rfl rfl ?_
  refine mx_iload_n 2 (mx_da t_X2_hurtWithFirst 2 rfl) rfl rfl rfl ?_
  refine mx_ishl (mx_da t_X2_hurtWithFirst 3 rfl) rfl ?_
  refine mx_iconst (v := (-1)) (mx_da t_X2_hurtWithFirst 4 rfl) rfl rfl ?_
  refine mx_ixor (mx_da t_X2_hurtWithFirst 5 rfl) rfl ?_
  refine mx_iand (mx_da t_X2_hurtWithFirst 6 rfl) rfl ?_
  refine mx_istore 4 [.ref 39, .int v1, .int v2, .int v3, .int (v1 &&& ((1 <<< (v2 &&& 31)) ^^^ (-1))), .retAddr 0, .retAddr 0] (mx_da t_X2_hurtWithFirst 7 rfl) rfl (by decide) rfl ?_
  refine mx_aload_n 0 (mx_da t_X2_hurtWithFirst 8 rfl) rfl rfl rfl rfl ?_
  refine mx_getR 41 fs_RX2_15 rfl (tp_s T 39 rfl) (tp_r T 38 rfl) (mx_da t_X2_hurtWithFirst 9 rfl) rfl ?_
  refine mx_iload 4 (mx_da t_X2_hurtWithFirst 10 rfl) rfl rfl ?_
  refine mx_iald (tp_s T 41 rfl) h.1 (mx_da t_X2_hurtWithFirst 11 rfl) rfl ?_
  have h := h.2
  refine mx_istore 5 [.ref 39, .int v1, .int v2, .int v3, .int (v1 &&& ((1 <<< (v2 &&& 31)) ^^^ (-1))), .int (mx_I M 41 (v1 &&& ((1 <<< (v2 &&& 31)) ^^^ (-1))).toNatClampNeg), .retAddr 0] (mx_da t_X2_hurtWithFirst 12 rfl) rfl (by decide) rfl ?_
  refine mx_iconst (v := 0) (mx_da t_X2_hurtWithFirst 13 rfl) rfl rfl ?_
  refine mx_istore 6 [.ref 39, .int v1, .int v2, .int v3, .int (v1 &&& ((1 <<< (v2 &&& 31)) ^^^ (-1))), .int (mx_I M 41 (v1 &&& ((1 <<< (v2 &&& 31)) ^^^ (-1))).toNatClampNeg), .int 0] (mx_da t_X2_hurtWithFirst 14 rfl) rfl (by decide) rfl ?_
  exact mx_wkn [.ref 39, .retAddr 0, .int v2, .int v3, .int (v1 &&& ((1 <<< (v2 &&& 31)) ^^^ (-1))), .int (mx_I M 41 (v1 &&& ((1 <<< (v2 &&& 31)) ^^^ (-1))).toNatClampNeg), .int 0] ⟨Or.inr rfl, Or.inl rfl, Or.inr rfl, Or.inr rfl, Or.inr rfl, Or.inr rfl, Or.inr rfl, trivial⟩ h
set_option maxHeartbeats 1000000 in
theorem x_X2_hurtWithFirst_21 {d : Nat} {M : mx_M} {Q : mx_O → mx_M → Prop} (T : mx_Tp M) (v2 : Int32) (v3 : Int32) (v4 : Int32) (v5 : Int32) (v6 : Int32)
    (h : ((v3 ≤ v6 → Q (.inl (some (.int v5))) M) ∧ (¬ v3 ≤ v6 → ((¬ ((v4 >>> (v6 &&& 31)) &&& 1) = (1 : Int32) → mx_W m_X2_hurtWithFirst d 21 [.ref 39, .retAddr 0, .int v2, .int v3, .int v4, .int v5, .int (v6 + 1)] [] M Q) ∧ (((v4 >>> (v6 &&& 31)) &&& 1) = (1 : Int32) → (vp_in ((v2 * 10) + v6) 100 ∧ mx_W m_X2_hurtWithFirst d 21 [.ref 39, .retAddr 0, .int v2, .int v3, .int v4, .int (v5 + (mx_I M 40 ((v2 * 10) + v6).toNatClampNeg)), .int (v6 + 1)] [] M Q)))))) :
    mx_W m_X2_hurtWithFirst d 21 [.ref 39, .retAddr 0, .int v2, .int v3, .int v4, .int v5, .int v6] [] M Q := by
  refine mx_iload 6 (mx_da t_X2_hurtWithFirst 15 rfl) rfl rfl ?_
  refine mx_iload_n 3 (mx_da t_X2_hurtWithFirst 16 rfl) rfl rfl rfl ?_
  refine mx_icmp_ge 61 (mx_da t_X2_hurtWithFirst 17 rfl) rfl rfl (fun g9 => ?_) (fun g9 => ?_)
  · have h := h.1 g9
    refine mx_iload 5 (mx_da t_X2_hurtWithFirst 38 rfl) rfl rfl ?_
    exact mx_iret rfl (mx_da t_X2_hurtWithFirst 39 rfl) h
  · have h := h.2 g9
    refine mx_iload 4 (mx_da t_X2_hurtWithFirst 18 rfl) rfl rfl ?_
    refine mx_iload 6 (mx_da t_X2_hurtWithFirst 19 rfl) rfl rfl ?_
    refine mx_ishr (mx_da t_X2_hurtWithFirst 20 rfl) rfl ?_
    refine mx_iconst (v := 1) (mx_da t_X2_hurtWithFirst 21 rfl) rfl rfl ?_
    refine mx_iand (mx_da t_X2_hurtWithFirst 22 rfl) rfl ?_
    refine mx_iconst (v := 1) (mx_da t_X2_hurtWithFirst 23 rfl) rfl rfl ?_
    refine mx_icmp_ne 55 (mx_da t_X2_hurtWithFirst 24 rfl) rfl rfl (fun g9 => ?_) (fun g9 => ?_)
    · have h := h.1 g9
      refine mx_iinc 6 (v := v6 + 1) [.ref 39, .retAddr 0, .int v2, .int v3, .int v4, .int v5, .int (v6 + 1)] (mx_da t_X2_hurtWithFirst 36 rfl) rfl (by decide) rfl rfl rfl ?_
      refine mx_goto (n := 21) (mx_da t_X2_hurtWithFirst 37 rfl) rfl ?_
      exact h
    · have h := h.2 g9
      refine mx_iload 5 (mx_da t_X2_hurtWithFirst 25 rfl) rfl rfl ?_
      refine mx_aload_n 0 (mx_da t_X2_hurtWithFirst 26 rfl) rfl rfl rfl rfl ?_
      refine mx_getR 40 fs_RX2_9 rfl (tp_s T 39 rfl) (tp_r T 37 rfl) (mx_da t_X2_hurtWithFirst 27 rfl) rfl ?_
      refine mx_iload_n 2 (mx_da t_X2_hurtWithFirst 28 rfl) rfl rfl rfl ?_
      refine mx_bipush (v := 10) (mx_da t_X2_hurtWithFirst 29 rfl) rfl rfl ?_
      refine mx_imul (mx_da t_X2_hurtWithFirst 30 rfl) rfl ?_
      refine mx_iload 6 (mx_da t_X2_hurtWithFirst 31 rfl) rfl rfl ?_
      refine mx_iadd (mx_da t_X2_hurtWithFirst 32 rfl) rfl ?_
      refine mx_iald (tp_s T 40 rfl) h.1 (mx_da t_X2_hurtWithFirst 33 rfl) rfl ?_
      have h := h.2
      refine mx_iadd (mx_da t_X2_hurtWithFirst 34 rfl) rfl ?_
      refine mx_istore 5 [.ref 39, .retAddr 0, .int v2, .int v3, .int v4, .int (v5 + (mx_I M 40 ((v2 * 10) + v6).toNatClampNeg)), .int v6] (mx_da t_X2_hurtWithFirst 35 rfl) rfl (by decide) rfl ?_
      refine mx_iinc 6 (v := v6 + 1) [.ref 39, .retAddr 0, .int v2, .int v3, .int v4, .int (v5 + (mx_I M 40 ((v2 * 10) + v6).toNatClampNeg)), .int (v6 + 1)] (mx_da t_X2_hurtWithFirst 36 rfl) rfl (by decide) rfl rfl rfl ?_
      refine mx_goto (n := 21) (mx_da t_X2_hurtWithFirst 37 rfl) rfl ?_
      exact h
set_option maxHeartbeats 1000000 in
theorem x_X3_learn_0 {d : Nat} {M : mx_M} {Q : mx_O → mx_M → Prop} (T : mx_Tp M) (c : Nat) (hc : mx_Cat c) (v2 : Int32)
    (h : (∀ M1, M1 = mx_setI M 24 6 (-1) → (vp_in v2 4 ∧ (mx_zo (mx_I M1 (c + 9) v2.toNatClampNeg) ∧ (∀ M2, M2 = mx_setI M1 24 7 (mx_I M1 (c + 9) v2.toNatClampNeg) → (vp_in v2 4 ∧ (mx_zo (mx_I M2 (c + 10) v2.toNatClampNeg) ∧ (∀ M3, M3 = mx_setI M2 24 8 (mx_I M2 (c + 10) v2.toNatClampNeg) → (vp_in v2 4 ∧ (mx_zo (mx_I M3 (c + 11) v2.toNatClampNeg) ∧ (∀ M4, M4 = mx_setI M3 24 9 (mx_I M3 (c + 11) v2.toNatClampNeg) → Q (.inl none) M4))))))))))) :
    mx_W m_X3_learn d 0 [.ref 24, .ref c, .int v2] [] M Q := by
  refine mx_aload_n 0 (mx_da t_X3_learn 0 rfl) rfl rfl rfl rfl ?_
  refine mx_iconst (v := (-1)) (mx_da t_X3_learn 1 rfl) rfl rfl ?_
  refine mx_putI fs_RX3_33 rfl (tp_s T 24 rfl) rfl rfl rfl (mx_da t_X3_learn 2 rfl) rfl ?_
  refine mx_gen (mx_setI M 24 6 (-1)) (fun M1 e9 => ?_)
  have h := h _ e9
  have T : mx_Tp M1 := tp_e e9 T
  refine mx_aload_n 0 (mx_da t_X3_learn 3 rfl) rfl rfl rfl rfl ?_
  refine mx_aload_n 1 (mx_da t_X3_learn 4 rfl) rfl rfl rfl rfl ?_
  refine mx_getR (c + 9) fs_RX3_47 rfl (cat_s T hc) (cat_r8 T hc) (mx_da t_X3_learn 5 rfl) rfl ?_
  refine mx_iload_n 2 (mx_da t_X3_learn 6 rfl) rfl rfl rfl ?_
  refine mx_zald (cat_a8 T hc) h.1 (mx_da t_X3_learn 7 rfl) rfl ?_
  have h := h.2
  refine mx_putI fs_RX3_37 rfl (tp_s T 24 rfl) rfl h.1.1 h.1.2 (mx_da t_X3_learn 8 rfl) rfl ?_
  have h := h.2
  refine mx_gen (mx_setI M1 24 7 (mx_I M1 (c + 9) v2.toNatClampNeg)) (fun M2 e9 => ?_)
  have h := h _ e9
  have T : mx_Tp M2 := tp_e e9 T
  refine mx_aload_n 0 (mx_da t_X3_learn 9 rfl) rfl rfl rfl rfl ?_
  refine mx_aload_n 1 (mx_da t_X3_learn 10 rfl) rfl rfl rfl rfl ?_
  refine mx_getR (c + 10) fs_RX3_53 rfl (cat_s T hc) (cat_r9 T hc) (mx_da t_X3_learn 11 rfl) rfl ?_
  refine mx_iload_n 2 (mx_da t_X3_learn 12 rfl) rfl rfl rfl ?_
  refine mx_zald (cat_a9 T hc) h.1 (mx_da t_X3_learn 13 rfl) rfl ?_
  have h := h.2
  refine mx_putI fs_RX3_41 rfl (tp_s T 24 rfl) rfl h.1.1 h.1.2 (mx_da t_X3_learn 14 rfl) rfl ?_
  have h := h.2
  refine mx_gen (mx_setI M2 24 8 (mx_I M2 (c + 10) v2.toNatClampNeg)) (fun M3 e9 => ?_)
  have h := h _ e9
  have T : mx_Tp M3 := tp_e e9 T
  refine mx_aload_n 0 (mx_da t_X3_learn 15 rfl) rfl rfl rfl rfl ?_
  refine mx_aload_n 1 (mx_da t_X3_learn 16 rfl) rfl rfl rfl rfl ?_
  refine mx_getR (c + 11) fs_RX3_56 rfl (cat_s T hc) (cat_r10 T hc) (mx_da t_X3_learn 17 rfl) rfl ?_
  refine mx_iload_n 2 (mx_da t_X3_learn 18 rfl) rfl rfl rfl ?_
  refine mx_zald (cat_a10 T hc) h.1 (mx_da t_X3_learn 19 rfl) rfl ?_
  have h := h.2
  refine mx_putI fs_RX3_44 rfl (tp_s T 24 rfl) rfl h.1.1 h.1.2 (mx_da t_X3_learn 20 rfl) rfl ?_
  have h := h.2
  refine mx_gen (mx_setI M3 24 9 (mx_I M3 (c + 11) v2.toNatClampNeg)) (fun M4 e9 => ?_)
  have h := h _ e9
  have T : mx_Tp M4 := tp_e e9 T
  exact mx_vret rfl (mx_da t_X3_learn 21 rfl) h
set_option maxHeartbeats 1000000 in
theorem x_X3_arrange_0 {d : Nat} {M : mx_M} {Q : mx_O → mx_M → Prop} (T : mx_Tp M) (c : Nat) (hc : mx_Cat c) (v2 : Int32) (v3 : Int32)
    (h : (mx_W m_X3_learnFolds d 0 [.ref 24, .ref c, .int v2, .retAddr 0, .retAddr 0] [] M (fun o M1 => mx_sh M1 = mx_sh M ∧ mx_R M1 = mx_R M ∧ (o = .inl none ∧ mx_W m_X3_arrange (d + 1) 9 [.ref 24, .ref c, .int v2, .int v3, .int 0] [] M1 Q)))) :
    mx_W m_X3_arrange (d + 1) 0 [.ref 24, .ref c, .int v2, .int v3, .retAddr 0] [] M Q := by
  refine mx_aload_n 0 (mx_da t_X3_arrange 0 rfl) rfl rfl rfl rfl ?_
  refine mx_aload_n 1 (mx_da t_X3_arrange 1 rfl) rfl rfl rfl rfl ?_
  refine mx_iload_n 2 (mx_da t_X3_arrange 2 rfl) rfl rfl rfl ?_
  refine mx_callV yX3_learnFolds m_X3_learnFolds [.ref c, .int v2] mm_X3_learnFolds ml_RX3_59 im_X3_learnFolds se_X3_learnFolds (tp_s T 24 rfl) rfl rfl (Nat.le_of_ble_eq_true rfl) (mx_da t_X3_arrange 3 rfl) rfl (Nat.le_of_ble_eq_true rfl) rfl ?_
  refine mx_mono h ?_
  intro o M1 ho
  obtain ⟨e1, e2, ho⟩ := ho
  obtain ⟨rfl, h⟩ := ho
  refine ⟨e1, ?_⟩
  have T := tp_of e1 e2 T
  clear e1 e2
  show mx_W m_X3_arrange (d + 1) 6 [.ref 24, .ref c, .int v2, .int v3, .retAddr 0] [] M1 Q
  refine mx_iconst (v := 0) (mx_da t_X3_arrange 4 rfl) rfl rfl ?_
  refine mx_istore 4 [.ref 24, .ref c, .int v2, .int v3, .int 0] (mx_da t_X3_arrange 5 rfl) rfl (by decide) rfl ?_
  exact h
set_option maxHeartbeats 1000000 in
theorem x_X3_arrange_9 {d : Nat} {M : mx_M} {Q : mx_O → mx_M → Prop} (T : mx_Tp M) (c : Nat) (hc : mx_Cat c) (v2 : Int32) (v3 : Int32) (v4 : Int32)
    (h : (((mx_I M c 12) ≤ v4 → (mx_W m_X3_rankAll d 0 [.ref 24, .ref c, .int v2, .int (v3 * 10), .retAddr 0, .retAddr 0, .retAddr 0] [] M (fun o M1 => mx_sh M1 = mx_sh M ∧ mx_R M1 = mx_R M ∧ (o = .inl none ∧ Q (.inl none) M1)))) ∧ (¬ (mx_I M c 12) ≤ v4 → (mx_W m_X3_readHeading d 0 [.ref 24, .ref c, .int v2, .int v4, .retAddr 0, .retAddr 0, .retAddr 0, .retAddr 0] [] M (fun o M2 => mx_sh M2 = mx_sh M ∧ mx_R M2 = mx_R M ∧ (o = .inl none ∧ (mx_W m_X3_writeKey d 0 [.ref 24, .ref c, .int v2, .int v4, .int ((v3 * 10) + v4), .retAddr 0, .retAddr 0, .retAddr 0] [] M2 (fun o M3 => mx_sh M3 = mx_sh M2 ∧ mx_R M3 = mx_R M2 ∧ (o = .inl none ∧ mx_W m_X3_arrange (d + 1) 9 [.ref 24, .ref c, .int v2, .int v3, .int (v4 + 1)] [] M3 Q))))))))) :
    mx_W m_X3_arrange (d + 1) 9 [.ref 24, .ref c, .int v2, .int v3, .int v4] [] M Q := by
  refine mx_iload 4 (mx_da t_X3_arrange 6 rfl) rfl rfl ?_
  refine mx_aload_n 1 (mx_da t_X3_arrange 7 rfl) rfl rfl rfl rfl ?_
  refine mx_getI fs_RX3_63 rfl (cat_s T hc) (mx_da t_X3_arrange 8 rfl) rfl ?_
  refine mx_icmp_ge 47 (mx_da t_X3_arrange 9 rfl) rfl rfl (fun g9 => ?_) (fun g9 => ?_)
  · have h := h.1 g9
    refine mx_aload_n 0 (mx_da t_X3_arrange 27 rfl) rfl rfl rfl rfl ?_
    refine mx_aload_n 1 (mx_da t_X3_arrange 28 rfl) rfl rfl rfl rfl ?_
    refine mx_iload_n 2 (mx_da t_X3_arrange 29 rfl) rfl rfl rfl ?_
    refine mx_iload_n 3 (mx_da t_X3_arrange 30 rfl) rfl rfl rfl ?_
    refine mx_bipush (v := 10) (mx_da t_X3_arrange 31 rfl) rfl rfl ?_
    refine mx_imul (mx_da t_X3_arrange 32 rfl) rfl ?_
    refine mx_callV yX3_rankAll m_X3_rankAll [.ref c, .int v2, .int (v3 * 10)] mm_X3_rankAll ml_RX3_73 im_X3_rankAll se_X3_rankAll (tp_s T 24 rfl) rfl rfl (Nat.le_of_ble_eq_true rfl) (mx_da t_X3_arrange 33 rfl) rfl (Nat.le_of_ble_eq_true rfl) rfl ?_
    refine mx_mono h ?_
    intro o M1 ho
    obtain ⟨e1, e2, ho⟩ := ho
    obtain ⟨rfl, h⟩ := ho
    refine ⟨e1, ?_⟩
    have T := tp_of e1 e2 T
    clear e1 e2
    show mx_W m_X3_arrange (d + 1) 57 [.ref 24, .ref c, .int v2, .int v3, .int v4] [] M1 Q
    exact mx_vret rfl (mx_da t_X3_arrange 34 rfl) h
  · have h := h.2 g9
    refine mx_aload_n 0 (mx_da t_X3_arrange 10 rfl) rfl rfl rfl rfl ?_
    refine mx_aload_n 1 (mx_da t_X3_arrange 11 rfl) rfl rfl rfl rfl ?_
    refine mx_iload_n 2 (mx_da t_X3_arrange 12 rfl) rfl rfl rfl ?_
    refine mx_iload 4 (mx_da t_X3_arrange 13 rfl) rfl rfl ?_
    refine mx_callV yX3_readHeading m_X3_readHeading [.ref c, .int v2, .int v4] mm_X3_readHeading ml_RX3_65 im_X3_readHeading se_X3_readHeading (tp_s T 24 rfl) rfl rfl (Nat.le_of_ble_eq_true rfl) (mx_da t_X3_arrange 14 rfl) rfl (Nat.le_of_ble_eq_true rfl) rfl ?_
    refine mx_mono h ?_
    intro o M2 ho
    obtain ⟨e1, e2, ho⟩ := ho
    obtain ⟨rfl, h⟩ := ho
    refine ⟨e1, ?_⟩
    have T := tp_of e1 e2 T
    clear e1 e2
    show mx_W m_X3_arrange (d + 1) 26 [.ref 24, .ref c, .int v2, .int v3, .int v4] [] M2 Q
    refine mx_aload_n 0 (mx_da t_X3_arrange 15 rfl) rfl rfl rfl rfl ?_
    refine mx_aload_n 1 (mx_da t_X3_arrange 16 rfl) rfl rfl rfl rfl ?_
    refine mx_iload_n 2 (mx_da t_X3_arrange 17 rfl) rfl rfl rfl ?_
    refine mx_iload 4 (mx_da t_X3_arrange 18 rfl) rfl rfl ?_
    refine mx_iload_n 3 (mx_da t_X3_arrange 19 rfl) rfl rfl rfl ?_
    refine mx_bipush (v := 10) (mx_da t_X3_arrange 20 rfl) rfl rfl ?_
    refine mx_imul (mx_da t_X3_arrange 21 rfl) rfl ?_
    refine mx_iload 4 (mx_da t_X3_arrange 22 rfl) rfl rfl ?_
    refine mx_iadd (mx_da t_X3_arrange 23 rfl) rfl ?_
    refine mx_callV yX3_writeKey m_X3_writeKey [.ref c, .int v2, .int v4, .int ((v3 * 10) + v4)] mm_X3_writeKey ml_RX3_69 im_X3_writeKey se_X3_writeKey (tp_s T 24 rfl) rfl rfl (Nat.le_of_ble_eq_true rfl) (mx_da t_X3_arrange 24 rfl) rfl (Nat.le_of_ble_eq_true rfl) rfl ?_
    refine mx_mono h ?_
    intro o M3 ho
    obtain ⟨e1, e2, ho⟩ := ho
    obtain ⟨rfl, h⟩ := ho
    refine ⟨e1, ?_⟩
    have T := tp_of e1 e2 T
    clear e1 e2
    show mx_W m_X3_arrange (d + 1) 41 [.ref 24, .ref c, .int v2, .int v3, .int v4] [] M3 Q
    refine mx_iinc 4 (v := v4 + 1) [.ref 24, .ref c, .int v2, .int v3, .int (v4 + 1)] (mx_da t_X3_arrange 25 rfl) rfl (by decide) rfl rfl rfl ?_
    refine mx_goto (n := 9) (mx_da t_X3_arrange 26 rfl) rfl ?_
    exact h
set_option maxHeartbeats 1000000 in
theorem x_X3_learnFolds_0 {d : Nat} {M : mx_M} {Q : mx_O → mx_M → Prop} (T : mx_Tp M) (c : Nat) (hc : mx_Cat c) (v2 : Int32)
    (h : mx_W m_X3_learnFolds (d + 1) 2 [.ref 24, .ref c, .int v2, .int 0, .retAddr 0] [] M Q) :
    mx_W m_X3_learnFolds (d + 1) 0 [.ref 24, .ref c, .int v2, .retAddr 0, .retAddr 0] [] M Q := by
  refine mx_iconst (v := 0) (mx_da t_X3_learnFolds 0 rfl) rfl rfl ?_
  refine mx_istore_n 3 [.ref 24, .ref c, .int v2, .int 0, .retAddr 0] (mx_da t_X3_learnFolds 1 rfl) rfl rfl (by decide) rfl ?_
  exact h
set_option maxHeartbeats 1000000 in
theorem x_X3_learnFolds_2 {d : Nat} {M : mx_M} {Q : mx_O → mx_M → Prop} (T : mx_Tp M) (c : Nat) (hc : mx_Cat c) (v2 : Int32) (v3 : Int32)
    (h : (((32 : Int32) ≤ v3 → mx_W m_X3_learnFolds (d + 1) 26 [.ref 24, .ref c, .int v2, .int 0, .retAddr 0] [] M Q) ∧ (¬ (32 : Int32) ≤ v3 → (vp_in v3 32 ∧ (∀ M1, M1 = mx_setI M 30 (v3.toNatClampNeg) v3 → mx_W m_X3_learnFolds (d + 1) 2 [.ref 24, .ref c, .int v2, .int (v3 + 1), .retAddr 0] [] M1 Q))))) :
    mx_W m_X3_learnFolds (d + 1) 2 [.ref 24, .ref c, .int v2, .int v3, .retAddr 0] [] M Q := by
  refine mx_iload_n 3 (mx_da t_X3_learnFolds 2 rfl) rfl rfl rfl ?_
  refine mx_aload_n 0 (mx_da t_X3_learnFolds 3 rfl) rfl rfl rfl rfl ?_
  refine mx_getR 30 fs_RX3_30 rfl (tp_s T 24 rfl) (tp_r T 27 rfl) (mx_da t_X3_learnFolds 4 rfl) rfl ?_
  refine mx_alen 32 (tp_s T 30 rfl) (Or.inl rfl) rfl (mx_da t_X3_learnFolds 5 rfl) rfl ?_
  refine mx_icmp_ge 24 (mx_da t_X3_learnFolds 6 rfl) rfl rfl (fun g9 => ?_) (fun g9 => ?_)
  · have h := h.1 g9
    refine mx_iconst (v := 0) (mx_da t_X3_learnFolds 14 rfl) rfl rfl ?_
    refine mx_istore_n 3 [.ref 24, .ref c, .int v2, .int 0, .retAddr 0] (mx_da t_X3_learnFolds 15 rfl) rfl rfl (by decide) rfl ?_
    exact h
  · have h := h.2 g9
    refine mx_aload_n 0 (mx_da t_X3_learnFolds 7 rfl) rfl rfl rfl rfl ?_
    refine mx_getR 30 fs_RX3_30 rfl (tp_s T 24 rfl) (tp_r T 27 rfl) (mx_da t_X3_learnFolds 8 rfl) rfl ?_
    refine mx_iload_n 3 (mx_da t_X3_learnFolds 9 rfl) rfl rfl rfl ?_
    refine mx_iload_n 3 (mx_da t_X3_learnFolds 10 rfl) rfl rfl rfl ?_
    refine mx_iast (tp_s T 30 rfl) h.1 (mx_da t_X3_learnFolds 11 rfl) rfl ?_
    have h := h.2
    refine mx_gen (mx_setI M 30 (v3.toNatClampNeg) v3) (fun M1 e9 => ?_)
    have h := h _ e9
    have T : mx_Tp M1 := tp_e e9 T
    refine mx_iinc 3 (v := v3 + 1) [.ref 24, .ref c, .int v2, .int (v3 + 1), .retAddr 0] (mx_da t_X3_learnFolds 12 rfl) rfl (by decide) rfl rfl rfl ?_
    refine mx_goto (n := 2) (mx_da t_X3_learnFolds 13 rfl) rfl ?_
    exact h
set_option maxHeartbeats 1000000 in
theorem x_X3_learnFolds_26 {d : Nat} {M : mx_M} {Q : mx_O → mx_M → Prop} (T : mx_Tp M) (c : Nat) (hc : mx_Cat c) (v2 : Int32) (v3 : Int32)
    (h : (vp_in v2 4 ∧ (((mx_I M (c + 5) v2.toNatClampNeg) ≤ v3 → Q (.inl none) M) ∧ (¬ (mx_I M (c + 5) v2.toNatClampNeg) ≤ v3 → (vp_in ((v2 * 8) + v3) 32 ∧ ((¬ (mx_I M (c + 6) ((v2 * 8) + v3).toNatClampNeg) = (2 : Int32) → mx_W m_X3_learnFolds (d + 1) 26 [.ref 24, .ref c, .int v2, .int (v3 + 1), .retAddr 0] [] M Q) ∧ ((mx_I M (c + 6) ((v2 * 8) + v3).toNatClampNeg) = (2 : Int32) → ((v3 = (mx_I M 24 6) → mx_W m_X3_learnFolds (d + 1) 26 [.ref 24, .ref c, .int v2, .int (v3 + 1), .retAddr 0] [] M Q) ∧ (¬ v3 = (mx_I M 24 6) → (vp_in ((v2 * 8) + v3) 32 ∧ (mx_W m_X9_letterAt d 0 [.long (mx_J M (c + 7) ((v2 * 8) + v3).toNatClampNeg), .retAddr 0, .int 0] [] M (fun o M1 => mx_sh M1 = mx_sh M ∧ mx_R M1 = mx_R M ∧ (∃ x2 : Int32, o = .inl (some (.int x2)) ∧ (vp_in ((v2 * 8) + v3) 32 ∧ (mx_W m_X9_letterAt d 0 [.long (mx_J M1 (c + 8) ((v2 * 8) + v3).toNatClampNeg), .retAddr 0, .int 0] [] M1 (fun o M3 => mx_sh M3 = mx_sh M1 ∧ mx_R M3 = mx_R M1 ∧ (∃ x4 : Int32, o = .inl (some (.int x4)) ∧ (vp_in x2 32 ∧ (∀ M5, M5 = mx_setI M3 30 (x2.toNatClampNeg) x4 → mx_W m_X3_learnFolds (d + 1) 26 [.ref 24, .ref c, .int v2, .int (v3 + 1), .retAddr 0] [] M5 Q))))))))))))))))))) :
    mx_W m_X3_learnFolds (d + 1) 26 [.ref 24, .ref c, .int v2, .int v3, .retAddr 0] [] M Q := by
  refine mx_iload_n 3 (mx_da t_X3_learnFolds 16 rfl) rfl rfl rfl ?_
  refine mx_aload_n 1 (mx_da t_X3_learnFolds 17 rfl) rfl rfl rfl rfl ?_
  refine mx_getR (c + 5) fs_RX3_76 rfl (cat_s T hc) (cat_r4 T hc) (mx_da t_X3_learnFolds 18 rfl) rfl ?_
  refine mx_iload_n 2 (mx_da t_X3_learnFolds 19 rfl) rfl rfl rfl ?_
  refine mx_iald (cat_a4 T hc) h.1 (mx_da t_X3_learnFolds 20 rfl) rfl ?_
  have h := h.2
  refine mx_icmp_ge 96 (mx_da t_X3_learnFolds 21 rfl) rfl rfl (fun g9 => ?_) (fun g9 => ?_)
  · have h := h.1 g9
    exact mx_vret rfl (mx_da t_X3_learnFolds 55 rfl) h
  · have h := h.2 g9
    refine mx_iload_n 2 (mx_da t_X3_learnFolds 22 rfl) rfl rfl rfl ?_
    refine mx_bipush (v := 8) (mx_da t_X3_learnFolds 23 rfl) rfl rfl ?_
    refine mx_imul (mx_da t_X3_learnFolds 24 rfl) rfl ?_
    refine mx_iload_n 3 (mx_da t_X3_learnFolds 25 rfl) rfl rfl rfl ?_
    refine mx_iadd (mx_da t_X3_learnFolds 26 rfl) rfl ?_
    refine mx_istore 4 [.ref 24, .ref c, .int v2, .int v3, .int ((v2 * 8) + v3)] (mx_da t_X3_learnFolds 27 rfl) rfl (by decide) rfl ?_
    refine mx_aload_n 1 (mx_da t_X3_learnFolds 28 rfl) rfl rfl rfl rfl ?_
    refine mx_getR (c + 6) fs_RX3_79 rfl (cat_s T hc) (cat_r5 T hc) (mx_da t_X3_learnFolds 29 rfl) rfl ?_
    refine mx_iload 4 (mx_da t_X3_learnFolds 30 rfl) rfl rfl ?_
    refine mx_iald (cat_a5 T hc) h.1 (mx_da t_X3_learnFolds 31 rfl) rfl ?_
    have h := h.2
    refine mx_iconst (v := 2) (mx_da t_X3_learnFolds 32 rfl) rfl rfl ?_
    refine mx_icmp_ne 90 (mx_da t_X3_learnFolds 33 rfl) rfl rfl (fun g9 => ?_) (fun g9 => ?_)
    · have h := h.1 g9
      refine mx_iinc 3 (v := v3 + 1) [.ref 24, .ref c, .int v2, .int (v3 + 1), .int ((v2 * 8) + v3)] (mx_da t_X3_learnFolds 53 rfl) rfl (by decide) rfl rfl rfl ?_
      refine mx_goto (n := 26) (mx_da t_X3_learnFolds 54 rfl) rfl ?_
      exact mx_wkn [.ref 24, .ref c, .int v2, .int (v3 + 1), .retAddr 0] ⟨Or.inr rfl, Or.inr rfl, Or.inr rfl, Or.inr rfl, Or.inl rfl, trivial⟩ h
    · have h := h.2 g9
      refine mx_iload_n 3 (mx_da t_X3_learnFolds 34 rfl) rfl rfl rfl ?_
      refine mx_aload_n 0 (mx_da t_X3_learnFolds 35 rfl) rfl rfl rfl rfl ?_
      refine mx_getI fs_RX3_33 rfl (tp_s T 24 rfl) (mx_da t_X3_learnFolds 36 rfl) rfl ?_
      refine mx_icmp_eq 90 (mx_da t_X3_learnFolds 37 rfl) rfl rfl (fun g9 => ?_) (fun g9 => ?_)
      · have h := h.1 g9
        refine mx_iinc 3 (v := v3 + 1) [.ref 24, .ref c, .int v2, .int (v3 + 1), .int ((v2 * 8) + v3)] (mx_da t_X3_learnFolds 53 rfl) rfl (by decide) rfl rfl rfl ?_
        refine mx_goto (n := 26) (mx_da t_X3_learnFolds 54 rfl) rfl ?_
        exact mx_wkn [.ref 24, .ref c, .int v2, .int (v3 + 1), .retAddr 0] ⟨Or.inr rfl, Or.inr rfl, Or.inr rfl, Or.inr rfl, Or.inl rfl, trivial⟩ h
      · have h := h.2 g9
        refine mx_aload_n 0 (mx_da t_X3_learnFolds 38 rfl) rfl rfl rfl rfl ?_
        refine mx_getR 30 fs_RX3_30 rfl (tp_s T 24 rfl) (tp_r T 27 rfl) (mx_da t_X3_learnFolds 39 rfl) rfl ?_
        refine mx_aload_n 1 (mx_da t_X3_learnFolds 40 rfl) rfl rfl rfl rfl ?_
        refine mx_getR (c + 7) fs_RX3_82 rfl (cat_s T hc) (cat_r6 T hc) (mx_da t_X3_learnFolds 41 rfl) rfl ?_
        refine mx_iload 4 (mx_da t_X3_learnFolds 42 rfl) rfl rfl ?_
        refine mx_lald (cat_a6 T hc) h.1 (mx_da t_X3_learnFolds 43 rfl) rfl ?_
        have h := h.2
        refine mx_iconst (v := 0) (mx_da t_X3_learnFolds 44 rfl) rfl rfl ?_
        refine mx_callS yX9_letterAt m_X9_letterAt [.long (mx_J M (c + 7) ((v2 * 8) + v3).toNatClampNeg), .int 0] mm_X9_letterAt ml_RX3_85 st_X9_letterAt rfl (Nat.le_of_ble_eq_true rfl) (mx_da t_X3_learnFolds 45 rfl) rfl (Nat.le_of_ble_eq_true rfl) rfl ?_
        refine mx_mono h ?_
        intro o M1 ho
        obtain ⟨e1, e2, ho⟩ := ho
        obtain ⟨x2, rfl, h⟩ := ho
        refine ⟨e1, ?_⟩
        have T := tp_of e1 e2 T
        clear e1 e2
        show mx_W m_X3_learnFolds (d + 1) 78 [.ref 24, .ref c, .int v2, .int v3, .int ((v2 * 8) + v3)] [.int x2, .ref 30] M1 Q
        refine mx_aload_n 1 (mx_da t_X3_learnFolds 46 rfl) rfl rfl rfl rfl ?_
        refine mx_getR (c + 8) fs_RX3_89 rfl (cat_s T hc) (cat_r7 T hc) (mx_da t_X3_learnFolds 47 rfl) rfl ?_
        refine mx_iload 4 (mx_da t_X3_learnFolds 48 rfl) rfl rfl ?_
        refine mx_lald (cat_a7 T hc) h.1 (mx_da t_X3_learnFolds 49 rfl) rfl ?_
        have h := h.2
        refine mx_iconst (v := 0) (mx_da t_X3_learnFolds 50 rfl) rfl rfl ?_
        refine mx_callS yX9_letterAt m_X9_letterAt [.long (mx_J M1 (c + 8) ((v2 * 8) + v3).toNatClampNeg), .int 0] mm_X9_letterAt ml_RX3_85 st_X9_letterAt rfl (Nat.le_of_ble_eq_true rfl) (mx_da t_X3_learnFolds 51 rfl) rfl (Nat.le_of_ble_eq_true rfl) rfl ?_
        refine mx_mono h ?_
        intro o M3 ho
        obtain ⟨e1, e2, ho⟩ := ho
        obtain ⟨x4, rfl, h⟩ := ho
        refine ⟨e1, ?_⟩
        have T := tp_of e1 e2 T
        clear e1 e2
        show mx_W m_X3_learnFolds (d + 1) 89 [.ref 24, .ref c, .int v2, .int v3, .int ((v2 * 8) + v3)] [.int x4, .int x2, .ref 30] M3 Q
        refine mx_iast (tp_s T 30 rfl) h.1 (mx_da t_X3_learnFolds 52 rfl) rfl ?_
        have h := h.2
        refine mx_gen (mx_setI M3 30 (x2.toNatClampNeg) x4) (fun M5 e9 => ?_)
        have h := h _ e9
        have T : mx_Tp M5 := tp_e e9 T
        refine mx_iinc 3 (v := v3 + 1) [.ref 24, .ref c, .int v2, .int (v3 + 1), .int ((v2 * 8) + v3)] (mx_da t_X3_learnFolds 53 rfl) rfl (by decide) rfl rfl rfl ?_
        refine mx_goto (n := 26) (mx_da t_X3_learnFolds 54 rfl) rfl ?_
        exact mx_wkn [.ref 24, .ref c, .int v2, .int (v3 + 1), .retAddr 0] ⟨Or.inr rfl, Or.inr rfl, Or.inr rfl, Or.inr rfl, Or.inl rfl, trivial⟩ h
set_option maxHeartbeats 1000000 in
theorem x_X3_ruleKept_0 {d : Nat} {M : mx_M} {Q : mx_O → mx_M → Prop} (T : mx_Tp M) (c : Nat) (hc : mx_Cat c) (v2 : Int32) (v3 : Int32) (v4 : Int64)
    (h : (mx_W m_X1_ruleOf d 0 [.ref c, .int v2, .int v3, .long v4, .retAddr 0, .retAddr 0, .retAddr 0] [] M (fun o M1 => mx_sh M1 = mx_sh M ∧ mx_R M1 = mx_R M ∧ (∃ x2 : Int32, o = .inl (some (.int x2)) ∧ ((¬ x2 = (mx_I M1 24 6) → Q (.inl (some (.int x2))) M1) ∧ (x2 = (mx_I M1 24 6) → Q (.inl (some (.int (-1)))) M1)))))) :
    mx_W m_X3_ruleKept (d + 1) 0 [.ref 24, .ref c, .int v2, .int v3, .long v4, .retAddr 0, .retAddr 0] [] M Q := by
  refine mx_aload_n 1 (mx_da t_X3_ruleKept 0 rfl) rfl rfl rfl rfl ?_
  refine mx_iload_n 2 (mx_da t_X3_ruleKept 1 rfl) rfl rfl rfl ?_
  refine mx_iload_n 3 (mx_da t_X3_ruleKept 2 rfl) rfl rfl rfl ?_
  refine mx_lload 4 (mx_da t_X3_ruleKept 3 rfl) rfl rfl ?_
  refine mx_callV yX1_ruleOf m_X1_ruleOf [.int v2, .int v3, .long v4] mm_X1_ruleOf ml_RX3_92 im_X1_ruleOf se_X1_ruleOf (cat_s T hc) rfl rfl (Nat.le_of_ble_eq_true rfl) (mx_da t_X3_ruleKept 4 rfl) rfl (Nat.le_of_ble_eq_true rfl) rfl ?_
  refine mx_mono h ?_
  intro o M1 ho
  obtain ⟨e1, e2, ho⟩ := ho
  obtain ⟨x2, rfl, h⟩ := ho
  refine ⟨e1, ?_⟩
  have T := tp_of e1 e2 T
  clear e1 e2
  show mx_W m_X3_ruleKept (d + 1) 8 [.ref 24, .ref c, .int v2, .int v3, .long v4, .retAddr 0, .retAddr 0] [.int x2] M1 Q
  refine mx_istore 6 [.ref 24, .ref c, .int v2, .int v3, .long v4, .retAddr 0, .int x2] (mx_da t_X3_ruleKept 5 rfl) rfl (by decide) rfl ?_
  refine mx_iload 6 (mx_da t_X3_ruleKept 6 rfl) rfl rfl ?_
  refine mx_aload_n 0 (mx_da t_X3_ruleKept 7 rfl) rfl rfl rfl rfl ?_
  refine mx_getI fs_RX3_33 rfl (tp_s T 24 rfl) (mx_da t_X3_ruleKept 8 rfl) rfl ?_
  refine mx_icmp_ne 23 (mx_da t_X3_ruleKept 9 rfl) rfl rfl (fun g9 => ?_) (fun g9 => ?_)
  · have h := h.1 g9
    refine mx_iload 6 (mx_da t_X3_ruleKept 12 rfl) rfl rfl ?_
    exact mx_iret rfl (mx_da t_X3_ruleKept 13 rfl) h
  · have h := h.2 g9
    refine mx_iconst (v := (-1)) (mx_da t_X3_ruleKept 10 rfl) rfl rfl ?_
    refine mx_goto (n := 25) (mx_da t_X3_ruleKept 11 rfl) rfl ?_
    exact mx_iret rfl (mx_da t_X3_ruleKept 13 rfl) h
set_option maxHeartbeats 1000000 in
theorem x_X3_readHeading_0 {d : Nat} {M : mx_M} {Q : mx_O → mx_M → Prop} (T : mx_Tp M) (c : Nat) (hc : mx_Cat c) (v2 : Int32) (v3 : Int32)
    (h : mx_W m_X3_readHeading (d + 1) 3 [.ref 24, .ref c, .int v2, .int v3, .int 0, .retAddr 0, .retAddr 0, .retAddr 0] [] M Q) :
    mx_W m_X3_readHeading (d + 1) 0 [.ref 24, .ref c, .int v2, .int v3, .retAddr 0, .retAddr 0, .retAddr 0, .retAddr 0] [] M Q := by
  refine mx_iconst (v := 0) (mx_da t_X3_readHeading 0 rfl) rfl rfl ?_
  refine mx_istore 4 [.ref 24, .ref c, .int v2, .int v3, .int 0, .retAddr 0, .retAddr 0, .retAddr 0] (mx_da t_X3_readHeading 1 rfl) rfl (by decide) rfl ?_
  exact h
set_option maxHeartbeats 1000000 in
theorem x_X3_readHeading_3 {d : Nat} {M : mx_M} {Q : mx_O → mx_M → Prop} (T : mx_Tp M) (c : Nat) (hc : mx_Cat c) (v2 : Int32) (v3 : Int32) (v4 : Int32)
    (h : (vp_in v3 10 ∧ (((mx_I M (c + 2) v3.toNatClampNeg) ≤ v4 → Q (.inl none) M) ∧ (¬ (mx_I M (c + 2) v3.toNatClampNeg) ≤ v4 → (vp_in ((v3 * 4) + v4) 40 ∧ (mx_W m_X3_ruleKept d 0 [.ref 24, .ref c, .int v2, .int 1, .long (mx_J M (c + 4) ((v3 * 4) + v4).toNatClampNeg), .retAddr 0, .retAddr 0] [] M (fun o M1 => mx_sh M1 = mx_sh M ∧ mx_R M1 = mx_R M ∧ (∃ x2 : Int32, o = .inl (some (.int x2)) ∧ ((¬ x2 = (-1 : Int32) → (vp_in ((v2 * 8) + x2) 32 ∧ (mx_W m_X3_folded d 0 [.ref 24, .long (mx_J M1 (c + 8) ((v2 * 8) + x2).toNatClampNeg), .retAddr 0, .retAddr 0, .retAddr 0, .retAddr 0] [] M1 (fun o M3 => mx_sh M3 = mx_sh M1 ∧ mx_R M3 = mx_R M1 ∧ (∃ x4 : Int64, o = .inl (some (.long x4)) ∧ (vp_in v4 4 ∧ (∀ M5, M5 = mx_setJ M3 29 (v4.toNatClampNeg) x4 → mx_W m_X3_readHeading (d + 1) 3 [.ref 24, .ref c, .int v2, .int v3, .int (v4 + 1), .retAddr 0, .retAddr 0, .retAddr 0] [] M5 Q))))))) ∧ (x2 = (-1 : Int32) → (mx_W m_X3_folded d 0 [.ref 24, .long (mx_J M (c + 4) ((v3 * 4) + v4).toNatClampNeg), .retAddr 0, .retAddr 0, .retAddr 0, .retAddr 0] [] M1 (fun o M6 => mx_sh M6 = mx_sh M1 ∧ mx_R M6 = mx_R M1 ∧ (∃ x7 : Int64, o = .inl (some (.long x7)) ∧ (vp_in v4 4 ∧ (∀ M8, M8 = mx_setJ M6 29 (v4.toNatClampNeg) x7 → mx_W m_X3_readHeading (d + 1) 3 [.ref 24, .ref c, .int v2, .int v3, .int (v4 + 1), .retAddr 0, .retAddr 0, .retAddr 0] [] M8 Q))))))))))))))) :
    mx_W m_X3_readHeading (d + 1) 3 [.ref 24, .ref c, .int v2, .int v3, .int v4, .retAddr 0, .retAddr 0, .retAddr 0] [] M Q := by
  refine mx_iload 4 (mx_da t_X3_readHeading 2 rfl) rfl rfl ?_
  refine mx_aload_n 1 (mx_da t_X3_readHeading 3 rfl) rfl rfl rfl rfl ?_
  refine mx_getR (c + 2) fs_RX3_96 rfl (cat_s T hc) (cat_r1 T hc) (mx_da t_X3_readHeading 4 rfl) rfl ?_
  refine mx_iload_n 3 (mx_da t_X3_readHeading 5 rfl) rfl rfl rfl ?_
  refine mx_iald (cat_a1 T hc) h.1 (mx_da t_X3_readHeading 6 rfl) rfl ?_
  have h := h.2
  refine mx_icmp_ge 78 (mx_da t_X3_readHeading 7 rfl) rfl rfl (fun g9 => ?_) (fun g9 => ?_)
  · have h := h.1 g9
    exact mx_vret rfl (mx_da t_X3_readHeading 45 rfl) h
  · have h := h.2 g9
    refine mx_aload_n 1 (mx_da t_X3_readHeading 8 rfl) rfl rfl rfl rfl ?_
    refine mx_getR (c + 4) fs_RX3_99 rfl (cat_s T hc) (cat_r3 T hc) (mx_da t_X3_readHeading 9 rfl) rfl ?_
    refine mx_iload_n 3 (mx_da t_X3_readHeading 10 rfl) rfl rfl rfl ?_
    refine mx_iconst (v := 4) (mx_da t_X3_readHeading 11 rfl) rfl rfl ?_
    refine mx_imul (mx_da t_X3_readHeading 12 rfl) rfl ?_
    refine mx_iload 4 (mx_da t_X3_readHeading 13 rfl) rfl rfl ?_
    refine mx_iadd (mx_da t_X3_readHeading 14 rfl) rfl ?_
    refine mx_lald (cat_a3 T hc) h.1 (mx_da t_X3_readHeading 15 rfl) rfl ?_
    have h := h.2
    refine mx_lstore 5 [.ref 24, .ref c, .int v2, .int v3, .int v4, .long (mx_J M (c + 4) ((v3 * 4) + v4).toNatClampNeg), .retAddr 0, .retAddr 0] (mx_da t_X3_readHeading 16 rfl) rfl (by decide) rfl ?_
    refine mx_aload_n 0 (mx_da t_X3_readHeading 17 rfl) rfl rfl rfl rfl ?_
    refine mx_aload_n 1 (mx_da t_X3_readHeading 18 rfl) rfl rfl rfl rfl ?_
    refine mx_iload_n 2 (mx_da t_X3_readHeading 19 rfl) rfl rfl rfl ?_
    refine mx_iconst (v := 1) (mx_da t_X3_readHeading 20 rfl) rfl rfl ?_
    refine mx_lload 5 (mx_da t_X3_readHeading 21 rfl) rfl rfl ?_
    refine mx_callV yX3_ruleKept m_X3_ruleKept [.ref c, .int v2, .int 1, .long (mx_J M (c + 4) ((v3 * 4) + v4).toNatClampNeg)] mm_X3_ruleKept ml_RX3_100 im_X3_ruleKept se_X3_ruleKept (tp_s T 24 rfl) rfl rfl (Nat.le_of_ble_eq_true rfl) (mx_da t_X3_readHeading 22 rfl) rfl (Nat.le_of_ble_eq_true rfl) rfl ?_
    refine mx_mono h ?_
    intro o M1 ho
    obtain ⟨e1, e2, ho⟩ := ho
    obtain ⟨x2, rfl, h⟩ := ho
    refine ⟨e1, ?_⟩
    have T := tp_of e1 e2 T
    clear e1 e2
    show mx_W m_X3_readHeading (d + 1) 36 [.ref 24, .ref c, .int v2, .int v3, .int v4, .long (mx_J M (c + 4) ((v3 * 4) + v4).toNatClampNeg), .retAddr 0, .retAddr 0] [.int x2] M1 Q
    refine mx_istore 7 [.ref 24, .ref c, .int v2, .int v3, .int v4, .long (mx_J M (c + 4) ((v3 * 4) + v4).toNatClampNeg), .retAddr 0, .int x2] (mx_da t_X3_readHeading 23 rfl) rfl (by decide) rfl ?_
    refine mx_aload_n 0 (mx_da t_X3_readHeading 24 rfl) rfl rfl rfl rfl ?_
    refine mx_getR 29 fs_RX3_24 rfl (tp_s T 24 rfl) (tp_r T 26 rfl) (mx_da t_X3_readHeading 25 rfl) rfl ?_
    refine mx_iload 4 (mx_da t_X3_readHeading 26 rfl) rfl rfl ?_
    refine mx_aload_n 0 (mx_da t_X3_readHeading 27 rfl) rfl rfl rfl rfl ?_
    refine mx_iload 7 (mx_da t_X3_readHeading 28 rfl) rfl rfl ?_
    refine mx_iconst (v := (-1)) (mx_da t_X3_readHeading 29 rfl) rfl rfl ?_
    refine mx_icmp_ne 56 (mx_da t_X3_readHeading 30 rfl) rfl rfl (fun g9 => ?_) (fun g9 => ?_)
    · have h := h.1 g9
      refine mx_aload_n 1 (mx_da t_X3_readHeading 33 rfl) rfl rfl rfl rfl ?_
      refine mx_getR (c + 8) fs_RX3_89 rfl (cat_s T hc) (cat_r7 T hc) (mx_da t_X3_readHeading 34 rfl) rfl ?_
      refine mx_iload_n 2 (mx_da t_X3_readHeading 35 rfl) rfl rfl rfl ?_
      refine mx_bipush (v := 8) (mx_da t_X3_readHeading 36 rfl) rfl rfl ?_
      refine mx_imul (mx_da t_X3_readHeading 37 rfl) rfl ?_
      refine mx_iload 7 (mx_da t_X3_readHeading 38 rfl) rfl rfl ?_
      refine mx_iadd (mx_da t_X3_readHeading 39 rfl) rfl ?_
      refine mx_lald (cat_a7 T hc) h.1 (mx_da t_X3_readHeading 40 rfl) rfl ?_
      have h := h.2
      refine mx_callV yX3_folded m_X3_folded [.long (mx_J M1 (c + 8) ((v2 * 8) + x2).toNatClampNeg)] mm_X3_folded ml_RX3_104 im_X3_folded se_X3_folded (tp_s T 24 rfl) rfl rfl (Nat.le_of_ble_eq_true rfl) (mx_da t_X3_readHeading 41 rfl) rfl (Nat.le_of_ble_eq_true rfl) rfl ?_
      refine mx_mono h ?_
      intro o M3 ho
      obtain ⟨e1, e2, ho⟩ := ho
      obtain ⟨x4, rfl, h⟩ := ho
      refine ⟨e1, ?_⟩
      have T := tp_of e1 e2 T
      clear e1 e2
      show mx_W m_X3_readHeading (d + 1) 71 [.ref 24, .ref c, .int v2, .int v3, .int v4, .long (mx_J M (c + 4) ((v3 * 4) + v4).toNatClampNeg), .retAddr 0, .int x2] [.long x4, .int v4, .ref 29] M3 Q
      refine mx_last (tp_s T 29 rfl) h.1 (mx_da t_X3_readHeading 42 rfl) rfl ?_
      have h := h.2
      refine mx_gen (mx_setJ M3 29 (v4.toNatClampNeg) x4) (fun M5 e9 => ?_)
      have h := h _ e9
      have T : mx_Tp M5 := tp_e e9 T
      refine mx_iinc 4 (v := v4 + 1) [.ref 24, .ref c, .int v2, .int v3, .int (v4 + 1), .long (mx_J M (c + 4) ((v3 * 4) + v4).toNatClampNeg), .retAddr 0, .int x2] (mx_da t_X3_readHeading 43 rfl) rfl (by decide) rfl rfl rfl ?_
      refine mx_goto (n := 3) (mx_da t_X3_readHeading 44 rfl) rfl ?_
      exact mx_wkn [.ref 24, .ref c, .int v2, .int v3, .int (v4 + 1), .retAddr 0, .retAddr 0, .retAddr 0] ⟨Or.inr rfl, Or.inr rfl, Or.inr rfl, Or.inr rfl, Or.inr rfl, Or.inl rfl, Or.inr rfl, Or.inl rfl, trivial⟩ h
    · have h := h.2 g9
      refine mx_lload 5 (mx_da t_X3_readHeading 31 rfl) rfl rfl ?_
      refine mx_goto (n := 68) (mx_da t_X3_readHeading 32 rfl) rfl ?_
      refine mx_callV yX3_folded m_X3_folded [.long (mx_J M (c + 4) ((v3 * 4) + v4).toNatClampNeg)] mm_X3_folded ml_RX3_104 im_X3_folded se_X3_folded (tp_s T 24 rfl) rfl rfl (Nat.le_of_ble_eq_true rfl) (mx_da t_X3_readHeading 41 rfl) rfl (Nat.le_of_ble_eq_true rfl) rfl ?_
      refine mx_mono h ?_
      intro o M6 ho
      obtain ⟨e1, e2, ho⟩ := ho
      obtain ⟨x7, rfl, h⟩ := ho
      refine ⟨e1, ?_⟩
      have T := tp_of e1 e2 T
      clear e1 e2
      show mx_W m_X3_readHeading (d + 1) 71 [.ref 24, .ref c, .int v2, .int v3, .int v4, .long (mx_J M (c + 4) ((v3 * 4) + v4).toNatClampNeg), .retAddr 0, .int x2] [.long x7, .int v4, .ref 29] M6 Q
      refine mx_last (tp_s T 29 rfl) h.1 (mx_da t_X3_readHeading 42 rfl) rfl ?_
      have h := h.2
      refine mx_gen (mx_setJ M6 29 (v4.toNatClampNeg) x7) (fun M8 e9 => ?_)
      have h := h _ e9
      have T : mx_Tp M8 := tp_e e9 T
      refine mx_iinc 4 (v := v4 + 1) [.ref 24, .ref c, .int v2, .int v3, .int (v4 + 1), .long (mx_J M (c + 4) ((v3 * 4) + v4).toNatClampNeg), .retAddr 0, .int x2] (mx_da t_X3_readHeading 43 rfl) rfl (by decide) rfl rfl rfl ?_
      refine mx_goto (n := 3) (mx_da t_X3_readHeading 44 rfl) rfl ?_
      exact mx_wkn [.ref 24, .ref c, .int v2, .int v3, .int (v4 + 1), .retAddr 0, .retAddr 0, .retAddr 0] ⟨Or.inr rfl, Or.inr rfl, Or.inr rfl, Or.inr rfl, Or.inr rfl, Or.inl rfl, Or.inr rfl, Or.inl rfl, trivial⟩ h
set_option maxHeartbeats 1000000 in
theorem x_X3_folded_0 {d : Nat} {M : mx_M} {Q : mx_O → mx_M → Prop} (T : mx_Tp M) (v1 : Int64)
    (h : mx_W m_X3_folded (d + 1) 5 [.ref 24, .long v1, .retAddr 0, .long 0, .retAddr 0, .int 0] [] M Q) :
    mx_W m_X3_folded (d + 1) 0 [.ref 24, .long v1, .retAddr 0, .retAddr 0, .retAddr 0, .retAddr 0] [] M Q := by
  refine mx_lconst (v := 0) (mx_da t_X3_folded 0 rfl) rfl rfl ?_
  refine mx_lstore_n 3 [.ref 24, .long v1, .retAddr 0, .long 0, .retAddr 0, .retAddr 0] (mx_da t_X3_folded 1 rfl) rfl rfl (by decide) rfl ?_
  refine mx_iconst (v := 0) (mx_da t_X3_folded 2 rfl) rfl rfl ?_
  refine mx_istore 5 [.ref 24, .long v1, .retAddr 0, .long 0, .retAddr 0, .int 0] (mx_da t_X3_folded 3 rfl) rfl (by decide) rfl ?_
  exact h
set_option maxHeartbeats 1000000 in
theorem x_X3_folded_5 {d : Nat} {M : mx_M} {Q : mx_O → mx_M → Prop} (T : mx_Tp M) (v1 : Int64) (v3 : Int64) (v5 : Int32)
    (h : (((8 : Int32) ≤ v5 → Q (.inl (some (.long v3))) M) ∧ (¬ (8 : Int32) ≤ v5 → (mx_W m_X9_letterAt d 0 [.long v1, .retAddr 0, .int v5] [] M (fun o M1 => mx_sh M1 = mx_sh M ∧ mx_R M1 = mx_R M ∧ (∃ x2 : Int32, o = .inl (some (.int x2)) ∧ (vp_in x2 32 ∧ (mx_W m_X9_withLetter d 0 [.long v3, .retAddr 0, .int v5, .int (mx_I M1 30 x2.toNatClampNeg)] [] M1 (fun o M3 => mx_sh M3 = mx_sh M1 ∧ mx_R M3 = mx_R M1 ∧ (∃ x4 : Int64, o = .inl (some (.long x4)) ∧ mx_W m_X3_folded (d + 1) 5 [.ref 24, .long v1, .retAddr 0, .long x4, .retAddr 0, .int (v5 + 1)] [] M3 Q)))))))))) :
    mx_W m_X3_folded (d + 1) 5 [.ref 24, .long v1, .retAddr 0, .long v3, .retAddr 0, .int v5] [] M Q := by
  refine mx_iload 5 (mx_da t_X3_folded 4 rfl) rfl rfl ?_
  refine mx_bipush (v := 8) (mx_da t_X3_folded 5 rfl) rfl rfl ?_
  refine mx_icmp_ge 36 (mx_da t_X3_folded 6 rfl) rfl rfl (fun g9 => ?_) (fun g9 => ?_)
  · have h := h.1 g9
    refine mx_lload_n 3 (mx_da t_X3_folded 19 rfl) rfl rfl rfl ?_
    exact mx_lret rfl (mx_da t_X3_folded 20 rfl) h
  · have h := h.2 g9
    refine mx_lload_n 3 (mx_da t_X3_folded 7 rfl) rfl rfl rfl ?_
    refine mx_iload 5 (mx_da t_X3_folded 8 rfl) rfl rfl ?_
    refine mx_aload_n 0 (mx_da t_X3_folded 9 rfl) rfl rfl rfl rfl ?_
    refine mx_getR 30 fs_RX3_30 rfl (tp_s T 24 rfl) (tp_r T 27 rfl) (mx_da t_X3_folded 10 rfl) rfl ?_
    refine mx_lload_n 1 (mx_da t_X3_folded 11 rfl) rfl rfl rfl ?_
    refine mx_iload 5 (mx_da t_X3_folded 12 rfl) rfl rfl ?_
    refine mx_callS yX9_letterAt m_X9_letterAt [.long v1, .int v5] mm_X9_letterAt ml_RX3_85 st_X9_letterAt rfl (Nat.le_of_ble_eq_true rfl) (mx_da t_X3_folded 13 rfl) rfl (Nat.le_of_ble_eq_true rfl) rfl ?_
    refine mx_mono h ?_
    intro o M1 ho
    obtain ⟨e1, e2, ho⟩ := ho
    obtain ⟨x2, rfl, h⟩ := ho
    refine ⟨e1, ?_⟩
    have T := tp_of e1 e2 T
    clear e1 e2
    show mx_W m_X3_folded (d + 1) 25 [.ref 24, .long v1, .retAddr 0, .long v3, .retAddr 0, .int v5] [.int x2, .ref 30, .int v5, .long v3] M1 Q
    refine mx_iald (tp_s T 30 rfl) h.1 (mx_da t_X3_folded 14 rfl) rfl ?_
    have h := h.2
    refine mx_callS yX9_withLetter m_X9_withLetter [.long v3, .int v5, .int (mx_I M1 30 x2.toNatClampNeg)] mm_X9_withLetter ml_RX3_108 st_X9_withLetter rfl (Nat.le_of_ble_eq_true rfl) (mx_da t_X3_folded 15 rfl) rfl (Nat.le_of_ble_eq_true rfl) rfl ?_
    refine mx_mono h ?_
    intro o M3 ho
    obtain ⟨e1, e2, ho⟩ := ho
    obtain ⟨x4, rfl, h⟩ := ho
    refine ⟨e1, ?_⟩
    have T := tp_of e1 e2 T
    clear e1 e2
    show mx_W m_X3_folded (d + 1) 29 [.ref 24, .long v1, .retAddr 0, .long v3, .retAddr 0, .int v5] [.long x4] M3 Q
    refine mx_lstore_n 3 [.ref 24, .long v1, .retAddr 0, .long x4, .retAddr 0, .int v5] (mx_da t_X3_folded 16 rfl) rfl rfl (by decide) rfl ?_
    refine mx_iinc 5 (v := v5 + 1) [.ref 24, .long v1, .retAddr 0, .long x4, .retAddr 0, .int (v5 + 1)] (mx_da t_X3_folded 17 rfl) rfl (by decide) rfl rfl rfl ?_
    refine mx_goto (n := 5) (mx_da t_X3_folded 18 rfl) rfl ?_
    exact h
set_option maxHeartbeats 1000000 in
theorem x_X3_writeKey_0 {d : Nat} {M : mx_M} {Q : mx_O → mx_M → Prop} (T : mx_Tp M) (c : Nat) (hc : mx_Cat c) (v2 : Int32) (v3 : Int32) (v4 : Int32)
    (h : (vp_in v3 10 ∧ mx_W m_X3_writeKey (d + 1) 13 [.ref 24, .ref c, .int v2, .retAddr 0, .int v4, .int ((mx_I M (c + 2) v3.toNatClampNeg) - 1), .int 0, .retAddr 0] [] M Q)) :
    mx_W m_X3_writeKey (d + 1) 0 [.ref 24, .ref c, .int v2, .int v3, .int v4, .retAddr 0, .retAddr 0, .retAddr 0] [] M Q := by
  refine mx_aload_n 1 (mx_da t_X3_writeKey 0 rfl) rfl rfl rfl rfl ?_
  refine mx_getR (c + 2) fs_RX3_96 rfl (cat_s T hc) (cat_r1 T hc) (mx_da t_X3_writeKey 1 rfl) rfl ?_
  refine mx_iload_n 3 (mx_da t_X3_writeKey 2 rfl) rfl rfl rfl ?_
  refine mx_iald (cat_a1 T hc) h.1 (mx_da t_X3_writeKey 3 rfl) rfl ?_
  have h := h.2
  refine mx_iconst (v := 1) (mx_da t_X3_writeKey 4 rfl) rfl rfl ?_
  refine mx_isub (mx_da t_X3_writeKey 5 rfl) rfl ?_
  refine mx_istore 5 [.ref 24, .ref c, .int v2, .int v3, .int v4, .int ((mx_I M (c + 2) v3.toNatClampNeg) - 1), .retAddr 0, .retAddr 0] (mx_da t_X3_writeKey 6 rfl) rfl (by decide) rfl ?_
  refine mx_iconst (v := 0) (mx_da t_X3_writeKey 7 rfl) rfl rfl ?_
  refine mx_istore 6 [.ref 24, .ref c, .int v2, .int v3, .int v4, .int ((mx_I M (c + 2) v3.toNatClampNeg) - 1), .int 0, .retAddr 0] (mx_da t_X3_writeKey 8 rfl) rfl (by decide) rfl ?_
  exact mx_wkn [.ref 24, .ref c, .int v2, .retAddr 0, .int v4, .int ((mx_I M (c + 2) v3.toNatClampNeg) - 1), .int 0, .retAddr 0] ⟨Or.inr rfl, Or.inr rfl, Or.inr rfl, Or.inl rfl, Or.inr rfl, Or.inr rfl, Or.inr rfl, Or.inr rfl, trivial⟩ h
set_option maxHeartbeats 1000000 in
theorem x_X3_writeKey_13 {d : Nat} {M : mx_M} {Q : mx_O → mx_M → Prop} (T : mx_Tp M) (c : Nat) (hc : mx_Cat c) (v2 : Int32) (v4 : Int32) (v5 : Int32) (v6 : Int32)
    (h : ((v5 ≤ v6 → (vp_in v4 50 ∧ (∀ M1, M1 = mx_setI M 26 (v4.toNatClampNeg) 0 → (((mx_I M1 24 7) = 0 → mx_W m_X3_writeKey (d + 1) 86 [.ref 24, .retAddr 0, .retAddr 0, .retAddr 0, .int v4, .int v5, .retAddr 0, .int v6] [] M1 Q) ∧ (¬ (mx_I M1 24 7) = 0 → ((v5 ≤ v6 → mx_W m_X3_writeKey (d + 1) 86 [.ref 24, .retAddr 0, .retAddr 0, .retAddr 0, .int v4, .int v5, .retAddr 0, .int v6] [] M1 Q) ∧ (¬ v5 ≤ v6 → (vp_in v5 4 ∧ (mx_W m_X3_writeWord d 0 [.ref 24, .int v4, .long (mx_J M1 29 v5.toNatClampNeg), .retAddr 0, .retAddr 0] [] M1 (fun o M2 => mx_sh M2 = mx_sh M1 ∧ mx_R M2 = mx_R M1 ∧ (o = .inl none ∧ mx_W m_X3_writeKey (d + 1) 86 [.ref 24, .retAddr 0, .retAddr 0, .retAddr 0, .int v4, .int (v5 + (-1)), .retAddr 0, .int v6] [] M2 Q))))))))))) ∧ (¬ v5 ≤ v6 → (vp_in v6 4 ∧ (mx_W m_X3_ruleKept d 0 [.ref 24, .ref c, .int v2, .int 0, .long (mx_J M 29 v6.toNatClampNeg), .retAddr 0, .retAddr 0] [] M (fun o M3 => mx_sh M3 = mx_sh M ∧ mx_R M3 = mx_R M ∧ (∃ x4 : Int32, o = .inl (some (.int x4)) ∧ ((x4 = (-1 : Int32) → (vp_in v4 50 ∧ (∀ M5, M5 = mx_setI M3 26 (v4.toNatClampNeg) 0 → (((mx_I M5 24 7) = 0 → mx_W m_X3_writeKey (d + 1) 86 [.ref 24, .retAddr 0, .retAddr 0, .retAddr 0, .int v4, .int v5, .retAddr 0, .int v6] [] M5 Q) ∧ (¬ (mx_I M5 24 7) = 0 → ((v5 ≤ v6 → mx_W m_X3_writeKey (d + 1) 86 [.ref 24, .retAddr 0, .retAddr 0, .retAddr 0, .int v4, .int v5, .retAddr 0, .int v6] [] M5 Q) ∧ (¬ v5 ≤ v6 → (vp_in v5 4 ∧ (mx_W m_X3_writeWord d 0 [.ref 24, .int v4, .long (mx_J M5 29 v5.toNatClampNeg), .retAddr 0, .retAddr 0] [] M5 (fun o M6 => mx_sh M6 = mx_sh M5 ∧ mx_R M6 = mx_R M5 ∧ (o = .inl none ∧ mx_W m_X3_writeKey (d + 1) 86 [.ref 24, .retAddr 0, .retAddr 0, .retAddr 0, .int v4, .int (v5 + (-1)), .retAddr 0, .int v6] [] M6 Q))))))))))) ∧ (¬ x4 = (-1 : Int32) → mx_W m_X3_writeKey (d + 1) 13 [.ref 24, .ref c, .int v2, .retAddr 0, .int v4, .int v5, .int (v6 + 1), .retAddr 0] [] M3 Q))))))))) :
    mx_W m_X3_writeKey (d + 1) 13 [.ref 24, .ref c, .int v2, .retAddr 0, .int v4, .int v5, .int v6, .retAddr 0] [] M Q := by
  refine mx_iload 6 (mx_da t_X3_writeKey 9 rfl) rfl rfl ?_
  refine mx_iload 5 (mx_da t_X3_writeKey 10 rfl) rfl rfl ?_
  refine mx_icmp_ge 44 (mx_da t_X3_writeKey 11 rfl) rfl rfl (fun g9 => ?_) (fun g9 => ?_)
  · have h := h.1 g9
    refine mx_aload_n 0 (mx_da t_X3_writeKey 25 rfl) rfl rfl rfl rfl ?_
    refine mx_getR 26 fs_RX3_15 rfl (tp_s T 24 rfl) (tp_r T 23 rfl) (mx_da t_X3_writeKey 26 rfl) rfl ?_
    refine mx_iload 4 (mx_da t_X3_writeKey 27 rfl) rfl rfl ?_
    refine mx_iconst (v := 0) (mx_da t_X3_writeKey 28 rfl) rfl rfl ?_
    refine mx_iast (tp_s T 26 rfl) h.1 (mx_da t_X3_writeKey 29 rfl) rfl ?_
    have h := h.2
    refine mx_gen (mx_setI M 26 (v4.toNatClampNeg) 0) (fun M1 e9 => ?_)
    have h := h _ e9
    have T : mx_Tp M1 := tp_e e9 T
    refine mx_aload_n 0 (mx_da t_X3_writeKey 30 rfl) rfl rfl rfl rfl ?_
    refine mx_getI fs_RX3_37 rfl (tp_s T 24 rfl) (mx_da t_X3_writeKey 31 rfl) rfl ?_
    refine mx_if_eq 82 (mx_da t_X3_writeKey 32 rfl) rfl rfl (fun g9 => ?_) (fun g9 => ?_)
    · have h := h.1 g9
      refine mx_iload 6 (mx_da t_X3_writeKey 44 rfl) rfl rfl ?_
      refine mx_istore 7 [.ref 24, .ref c, .int v2, .retAddr 0, .int v4, .int v5, .int v6, .int v6] (mx_da t_X3_writeKey 45 rfl) rfl (by decide) rfl ?_
      exact mx_wkn [.ref 24, .retAddr 0, .retAddr 0, .retAddr 0, .int v4, .int v5, .retAddr 0, .int v6] ⟨Or.inr rfl, Or.inl rfl, Or.inl rfl, Or.inr rfl, Or.inr rfl, Or.inr rfl, Or.inl rfl, Or.inr rfl, trivial⟩ h
    · have h := h.2 g9
      refine mx_iload 5 (mx_da t_X3_writeKey 33 rfl) rfl rfl ?_
      refine mx_iload 6 (mx_da t_X3_writeKey 34 rfl) rfl rfl ?_
      refine mx_icmp_le 82 (mx_da t_X3_writeKey 35 rfl) rfl rfl (fun g9 => ?_) (fun g9 => ?_)
      · have h := h.1 g9
        refine mx_iload 6 (mx_da t_X3_writeKey 44 rfl) rfl rfl ?_
        refine mx_istore 7 [.ref 24, .ref c, .int v2, .retAddr 0, .int v4, .int v5, .int v6, .int v6] (mx_da t_X3_writeKey 45 rfl) rfl (by decide) rfl ?_
        exact mx_wkn [.ref 24, .retAddr 0, .retAddr 0, .retAddr 0, .int v4, .int v5, .retAddr 0, .int v6] ⟨Or.inr rfl, Or.inl rfl, Or.inl rfl, Or.inr rfl, Or.inr rfl, Or.inr rfl, Or.inl rfl, Or.inr rfl, trivial⟩ h
      · have h := h.2 g9
        refine mx_aload_n 0 (mx_da t_X3_writeKey 36 rfl) rfl rfl rfl rfl ?_
        refine mx_iload 4 (mx_da t_X3_writeKey 37 rfl) rfl rfl ?_
        refine mx_aload_n 0 (mx_da t_X3_writeKey 38 rfl) rfl rfl rfl rfl ?_
        refine mx_getR 29 fs_RX3_24 rfl (tp_s T 24 rfl) (tp_r T 26 rfl) (mx_da t_X3_writeKey 39 rfl) rfl ?_
        refine mx_iload 5 (mx_da t_X3_writeKey 40 rfl) rfl rfl ?_
        refine mx_lald (tp_s T 29 rfl) h.1 (mx_da t_X3_writeKey 41 rfl) rfl ?_
        have h := h.2
        refine mx_callV yX3_writeWord m_X3_writeWord [.int v4, .long (mx_J M1 29 v5.toNatClampNeg)] mm_X3_writeWord ml_RX3_112 im_X3_writeWord se_X3_writeWord (tp_s T 24 rfl) rfl rfl (Nat.le_of_ble_eq_true rfl) (mx_da t_X3_writeKey 42 rfl) rfl (Nat.le_of_ble_eq_true rfl) rfl ?_
        refine mx_mono h ?_
        intro o M2 ho
        obtain ⟨e1, e2, ho⟩ := ho
        obtain ⟨rfl, h⟩ := ho
        refine ⟨e1, ?_⟩
        have T := tp_of e1 e2 T
        clear e1 e2
        show mx_W m_X3_writeKey (d + 1) 79 [.ref 24, .ref c, .int v2, .retAddr 0, .int v4, .int v5, .int v6, .retAddr 0] [] M2 Q
        refine mx_iinc 5 (v := v5 + (-1)) [.ref 24, .ref c, .int v2, .retAddr 0, .int v4, .int (v5 + (-1)), .int v6, .retAddr 0] (mx_da t_X3_writeKey 43 rfl) rfl (by decide) rfl rfl rfl ?_
        refine mx_iload 6 (mx_da t_X3_writeKey 44 rfl) rfl rfl ?_
        refine mx_istore 7 [.ref 24, .ref c, .int v2, .retAddr 0, .int v4, .int (v5 + (-1)), .int v6, .int v6] (mx_da t_X3_writeKey 45 rfl) rfl (by decide) rfl ?_
        exact mx_wkn [.ref 24, .retAddr 0, .retAddr 0, .retAddr 0, .int v4, .int (v5 + (-1)), .retAddr 0, .int v6] ⟨Or.inr rfl, Or.inl rfl, Or.inl rfl, Or.inr rfl, Or.inr rfl, Or.inr rfl, Or.inl rfl, Or.inr rfl, trivial⟩ h
  · have h := h.2 g9
    refine mx_aload_n 0 (mx_da t_X3_writeKey 12 rfl) rfl rfl rfl rfl ?_
    refine mx_aload_n 1 (mx_da t_X3_writeKey 13 rfl) rfl rfl rfl rfl ?_
    refine mx_iload_n 2 (mx_da t_X3_writeKey 14 rfl) rfl rfl rfl ?_
    refine mx_iconst (v := 0) (mx_da t_X3_writeKey 15 rfl) rfl rfl ?_
    refine mx_aload_n 0 (mx_da t_X3_writeKey 16 rfl) rfl rfl rfl rfl ?_
    refine mx_getR 29 fs_RX3_24 rfl (tp_s T 24 rfl) (tp_r T 26 rfl) (mx_da t_X3_writeKey 17 rfl) rfl ?_
    refine mx_iload 6 (mx_da t_X3_writeKey 18 rfl) rfl rfl ?_
    refine mx_lald (tp_s T 29 rfl) h.1 (mx_da t_X3_writeKey 19 rfl) rfl ?_
    have h := h.2
    refine mx_callV yX3_ruleKept m_X3_ruleKept [.ref c, .int v2, .int 0, .long (mx_J M 29 v6.toNatClampNeg)] mm_X3_ruleKept ml_RX3_100 im_X3_ruleKept se_X3_ruleKept (tp_s T 24 rfl) rfl rfl (Nat.le_of_ble_eq_true rfl) (mx_da t_X3_writeKey 20 rfl) rfl (Nat.le_of_ble_eq_true rfl) rfl ?_
    refine mx_mono h ?_
    intro o M3 ho
    obtain ⟨e1, e2, ho⟩ := ho
    obtain ⟨x4, rfl, h⟩ := ho
    refine ⟨e1, ?_⟩
    have T := tp_of e1 e2 T
    clear e1 e2
    show mx_W m_X3_writeKey (d + 1) 34 [.ref 24, .ref c, .int v2, .retAddr 0, .int v4, .int v5, .int v6, .retAddr 0] [.int x4] M3 Q
    refine mx_iconst (v := (-1)) (mx_da t_X3_writeKey 21 rfl) rfl rfl ?_
    refine mx_icmp_eq 44 (mx_da t_X3_writeKey 22 rfl) rfl rfl (fun g9 => ?_) (fun g9 => ?_)
    · have h := h.1 g9
      refine mx_aload_n 0 (mx_da t_X3_writeKey 25 rfl) rfl rfl rfl rfl ?_
      refine mx_getR 26 fs_RX3_15 rfl (tp_s T 24 rfl) (tp_r T 23 rfl) (mx_da t_X3_writeKey 26 rfl) rfl ?_
      refine mx_iload 4 (mx_da t_X3_writeKey 27 rfl) rfl rfl ?_
      refine mx_iconst (v := 0) (mx_da t_X3_writeKey 28 rfl) rfl rfl ?_
      refine mx_iast (tp_s T 26 rfl) h.1 (mx_da t_X3_writeKey 29 rfl) rfl ?_
      have h := h.2
      refine mx_gen (mx_setI M3 26 (v4.toNatClampNeg) 0) (fun M5 e9 => ?_)
      have h := h _ e9
      have T : mx_Tp M5 := tp_e e9 T
      refine mx_aload_n 0 (mx_da t_X3_writeKey 30 rfl) rfl rfl rfl rfl ?_
      refine mx_getI fs_RX3_37 rfl (tp_s T 24 rfl) (mx_da t_X3_writeKey 31 rfl) rfl ?_
      refine mx_if_eq 82 (mx_da t_X3_writeKey 32 rfl) rfl rfl (fun g9 => ?_) (fun g9 => ?_)
      · have h := h.1 g9
        refine mx_iload 6 (mx_da t_X3_writeKey 44 rfl) rfl rfl ?_
        refine mx_istore 7 [.ref 24, .ref c, .int v2, .retAddr 0, .int v4, .int v5, .int v6, .int v6] (mx_da t_X3_writeKey 45 rfl) rfl (by decide) rfl ?_
        exact mx_wkn [.ref 24, .retAddr 0, .retAddr 0, .retAddr 0, .int v4, .int v5, .retAddr 0, .int v6] ⟨Or.inr rfl, Or.inl rfl, Or.inl rfl, Or.inr rfl, Or.inr rfl, Or.inr rfl, Or.inl rfl, Or.inr rfl, trivial⟩ h
      · have h := h.2 g9
        refine mx_iload 5 (mx_da t_X3_writeKey 33 rfl) rfl rfl ?_
        refine mx_iload 6 (mx_da t_X3_writeKey 34 rfl) rfl rfl ?_
        refine mx_icmp_le 82 (mx_da t_X3_writeKey 35 rfl) rfl rfl (fun g9 => ?_) (fun g9 => ?_)
        · have h := h.1 g9
          refine mx_iload 6 (mx_da t_X3_writeKey 44 rfl) rfl rfl ?_
          refine mx_istore 7 [.ref 24, .ref c, .int v2, .retAddr 0, .int v4, .int v5, .int v6, .int v6] (mx_da t_X3_writeKey 45 rfl) rfl (by decide) rfl ?_
          exact mx_wkn [.ref 24, .retAddr 0, .retAddr 0, .retAddr 0, .int v4, .int v5, .retAddr 0, .int v6] ⟨Or.inr rfl, Or.inl rfl, Or.inl rfl, Or.inr rfl, Or.inr rfl, Or.inr rfl, Or.inl rfl, Or.inr rfl, trivial⟩ h
        · have h := h.2 g9
          refine mx_aload_n 0 (mx_da t_X3_writeKey 36 rfl) rfl rfl rfl rfl ?_
          refine mx_iload 4 (mx_da t_X3_writeKey 37 rfl) rfl rfl ?_
          refine mx_aload_n 0 (mx_da t_X3_writeKey 38 rfl) rfl rfl rfl rfl ?_
          refine mx_getR 29 fs_RX3_24 rfl (tp_s T 24 rfl) (tp_r T 26 rfl) (mx_da t_X3_writeKey 39 rfl) rfl ?_
          refine mx_iload 5 (mx_da t_X3_writeKey 40 rfl) rfl rfl ?_
          refine mx_lald (tp_s T 29 rfl) h.1 (mx_da t_X3_writeKey 41 rfl) rfl ?_
          have h := h.2
          refine mx_callV yX3_writeWord m_X3_writeWord [.int v4, .long (mx_J M5 29 v5.toNatClampNeg)] mm_X3_writeWord ml_RX3_112 im_X3_writeWord se_X3_writeWord (tp_s T 24 rfl) rfl rfl (Nat.le_of_ble_eq_true rfl) (mx_da t_X3_writeKey 42 rfl) rfl (Nat.le_of_ble_eq_true rfl) rfl ?_
          refine mx_mono h ?_
          intro o M6 ho
          obtain ⟨e1, e2, ho⟩ := ho
          obtain ⟨rfl, h⟩ := ho
          refine ⟨e1, ?_⟩
          have T := tp_of e1 e2 T
          clear e1 e2
          show mx_W m_X3_writeKey (d + 1) 79 [.ref 24, .ref c, .int v2, .retAddr 0, .int v4, .int v5, .int v6, .retAddr 0] [] M6 Q
          refine mx_iinc 5 (v := v5 + (-1)) [.ref 24, .ref c, .int v2, .retAddr 0, .int v4, .int (v5 + (-1)), .int v6, .retAddr 0] (mx_da t_X3_writeKey 43 rfl) rfl (by decide) rfl rfl rfl ?_
          refine mx_iload 6 (mx_da t_X3_writeKey 44 rfl) rfl rfl ?_
          refine mx_istore 7 [.ref 24, .ref c, .int v2, .retAddr 0, .int v4, .int (v5 + (-1)), .int v6, .int v6] (mx_da t_X3_writeKey 45 rfl) rfl (by decide) rfl ?_
          exact mx_wkn [.ref 24, .retAddr 0, .retAddr 0, .retAddr 0, .int v4, .int (v5 + (-1)), .retAddr 0, .int v6] ⟨Or.inr rfl, Or.inl rfl, Or.inl rfl, Or.inr rfl, Or.inr rfl, Or.inr rfl, Or.inl rfl, Or.inr rfl, trivial⟩ h
    · have h := h.2 g9
      refine mx_iinc 6 (v := v6 + 1) [.ref 24, .ref c, .int v2, .retAddr 0, .int v4, .int v5, .int (v6 + 1), .retAddr 0] (mx_da t_X3_writeKey 23 rfl) rfl (by decide) rfl rfl rfl ?_
      refine mx_goto (n := 13) (mx_da t_X3_writeKey 24 rfl) rfl ?_
      exact h
set_option maxHeartbeats 1000000 in
theorem x_X3_writeKey_86 {d : Nat} {M : mx_M} {Q : mx_O → mx_M → Prop} (T : mx_Tp M) (c : Nat) (hc : mx_Cat c) (v4 : Int32) (v5 : Int32) (v7 : Int32)
    (h : ((v5 < v7 → Q (.inl none) M) ∧ (¬ v5 < v7 → (vp_in v7 4 ∧ (mx_W m_X3_writeWord d 0 [.ref 24, .int v4, .long (mx_J M 29 v7.toNatClampNeg), .retAddr 0, .retAddr 0] [] M (fun o M1 => mx_sh M1 = mx_sh M ∧ mx_R M1 = mx_R M ∧ (o = .inl none ∧ mx_W m_X3_writeKey (d + 1) 86 [.ref 24, .retAddr 0, .retAddr 0, .retAddr 0, .int v4, .int v5, .retAddr 0, .int (v7 + 1)] [] M1 Q))))))) :
    mx_W m_X3_writeKey (d + 1) 86 [.ref 24, .retAddr 0, .retAddr 0, .retAddr 0, .int v4, .int v5, .retAddr 0, .int v7] [] M Q := by
  refine mx_iload 7 (mx_da t_X3_writeKey 46 rfl) rfl rfl ?_
  refine mx_iload 5 (mx_da t_X3_writeKey 47 rfl) rfl rfl ?_
  refine mx_icmp_gt 112 (mx_da t_X3_writeKey 48 rfl) rfl rfl (fun g9 => ?_) (fun g9 => ?_)
  · have h := h.1 g9
    exact mx_vret rfl (mx_da t_X3_writeKey 58 rfl) h
  · have h := h.2 g9
    refine mx_aload_n 0 (mx_da t_X3_writeKey 49 rfl) rfl rfl rfl rfl ?_
    refine mx_iload 4 (mx_da t_X3_writeKey 50 rfl) rfl rfl ?_
    refine mx_aload_n 0 (mx_da t_X3_writeKey 51 rfl) rfl rfl rfl rfl ?_
    refine mx_getR 29 fs_RX3_24 rfl (tp_s T 24 rfl) (tp_r T 26 rfl) (mx_da t_X3_writeKey 52 rfl) rfl ?_
    refine mx_iload 7 (mx_da t_X3_writeKey 53 rfl) rfl rfl ?_
    refine mx_lald (tp_s T 29 rfl) h.1 (mx_da t_X3_writeKey 54 rfl) rfl ?_
    have h := h.2
    refine mx_callV yX3_writeWord m_X3_writeWord [.int v4, .long (mx_J M 29 v7.toNatClampNeg)] mm_X3_writeWord ml_RX3_112 im_X3_writeWord se_X3_writeWord (tp_s T 24 rfl) rfl rfl (Nat.le_of_ble_eq_true rfl) (mx_da t_X3_writeKey 55 rfl) rfl (Nat.le_of_ble_eq_true rfl) rfl ?_
    refine mx_mono h ?_
    intro o M1 ho
    obtain ⟨e1, e2, ho⟩ := ho
    obtain ⟨rfl, h⟩ := ho
    refine ⟨e1, ?_⟩
    have T := tp_of e1 e2 T
    clear e1 e2
    show mx_W m_X3_writeKey (d + 1) 106 [.ref 24, .retAddr 0, .retAddr 0, .retAddr 0, .int v4, .int v5, .retAddr 0, .int v7] [] M1 Q
    refine mx_iinc 7 (v := v7 + 1) [.ref 24, .retAddr 0, .retAddr 0, .retAddr 0, .int v4, .int v5, .retAddr 0, .int (v7 + 1)] (mx_da t_X3_writeKey 56 rfl) rfl (by decide) rfl rfl rfl ?_
    refine mx_goto (n := 86) (mx_da t_X3_writeKey 57 rfl) rfl ?_
    exact h
set_option maxHeartbeats 1000000 in
theorem x_X3_writeWord_0 {d : Nat} {M : mx_M} {Q : mx_O → mx_M → Prop} (T : mx_Tp M) (v1 : Int32) (v2 : Int64)
    (h : (vp_in v1 50 ∧ (((mx_I M 26 v1.toNatClampNeg) ≤ 0 → mx_W m_X3_writeWord (d + 1) 25 [.ref 24, .int v1, .long v2, .retAddr 0, .int 0] [] M Q) ∧ (¬ (mx_I M 26 v1.toNatClampNeg) ≤ 0 → ((¬ (mx_I M 24 8) = 0 → mx_W m_X3_writeWord (d + 1) 25 [.ref 24, .int v1, .long v2, .retAddr 0, .int 0] [] M Q) ∧ ((mx_I M 24 8) = 0 → (mx_W m_X3_writeSign d 0 [.ref 24, .int v1, .int 0] [] M (fun o M1 => mx_sh M1 = mx_sh M ∧ mx_R M1 = mx_R M ∧ (o = .inl none ∧ mx_W m_X3_writeWord (d + 1) 25 [.ref 24, .int v1, .long v2, .retAddr 0, .int 0] [] M1 Q))))))))) :
    mx_W m_X3_writeWord (d + 1) 0 [.ref 24, .int v1, .long v2, .retAddr 0, .retAddr 0] [] M Q := by
  refine mx_aload_n 0 (mx_da t_X3_writeWord 0 rfl) rfl rfl rfl rfl ?_
  refine mx_getR 26 fs_RX3_15 rfl (tp_s T 24 rfl) (tp_r T 23 rfl) (mx_da t_X3_writeWord 1 rfl) rfl ?_
  refine mx_iload_n 1 (mx_da t_X3_writeWord 2 rfl) rfl rfl rfl ?_
  refine mx_iald (tp_s T 26 rfl) h.1 (mx_da t_X3_writeWord 3 rfl) rfl ?_
  have h := h.2
  refine mx_if_le 22 (mx_da t_X3_writeWord 4 rfl) rfl rfl (fun g9 => ?_) (fun g9 => ?_)
  · have h := h.1 g9
    refine mx_iconst (v := 0) (mx_da t_X3_writeWord 12 rfl) rfl rfl ?_
    refine mx_istore 4 [.ref 24, .int v1, .long v2, .retAddr 0, .int 0] (mx_da t_X3_writeWord 13 rfl) rfl (by decide) rfl ?_
    exact h
  · have h := h.2 g9
    refine mx_aload_n 0 (mx_da t_X3_writeWord 5 rfl) rfl rfl rfl rfl ?_
    refine mx_getI fs_RX3_41 rfl (tp_s T 24 rfl) (mx_da t_X3_writeWord 6 rfl) rfl ?_
    refine mx_if_ne 22 (mx_da t_X3_writeWord 7 rfl) rfl rfl (fun g9 => ?_) (fun g9 => ?_)
    · have h := h.1 g9
      refine mx_iconst (v := 0) (mx_da t_X3_writeWord 12 rfl) rfl rfl ?_
      refine mx_istore 4 [.ref 24, .int v1, .long v2, .retAddr 0, .int 0] (mx_da t_X3_writeWord 13 rfl) rfl (by decide) rfl ?_
      exact h
    · have h := h.2 g9
      refine mx_aload_n 0 (mx_da t_X3_writeWord 8 rfl) rfl rfl rfl rfl ?_
      refine mx_iload_n 1 (mx_da t_X3_writeWord 9 rfl) rfl rfl rfl ?_
      refine mx_iconst (v := 0) (mx_da t_X3_writeWord 10 rfl) rfl rfl ?_
      refine mx_callV yX3_writeSign m_X3_writeSign [.int v1, .int 0] mm_X3_writeSign ml_RX3_116 im_X3_writeSign se_X3_writeSign (tp_s T 24 rfl) rfl rfl (Nat.le_of_ble_eq_true rfl) (mx_da t_X3_writeWord 11 rfl) rfl (Nat.le_of_ble_eq_true rfl) rfl ?_
      refine mx_mono h ?_
      intro o M1 ho
      obtain ⟨e1, e2, ho⟩ := ho
      obtain ⟨rfl, h⟩ := ho
      refine ⟨e1, ?_⟩
      have T := tp_of e1 e2 T
      clear e1 e2
      show mx_W m_X3_writeWord (d + 1) 22 [.ref 24, .int v1, .long v2, .retAddr 0, .retAddr 0] [] M1 Q
      refine mx_iconst (v := 0) (mx_da t_X3_writeWord 12 rfl) rfl rfl ?_
      refine mx_istore 4 [.ref 24, .int v1, .long v2, .retAddr 0, .int 0] (mx_da t_X3_writeWord 13 rfl) rfl (by decide) rfl ?_
      exact h
set_option maxHeartbeats 1000000 in
theorem x_X3_writeWord_25 {d : Nat} {M : mx_M} {Q : mx_O → mx_M → Prop} (T : mx_Tp M) (v1 : Int32) (v2 : Int64) (v4 : Int32)
    (h : (((8 : Int32) ≤ v4 → Q (.inl none) M) ∧ (¬ (8 : Int32) ≤ v4 → (mx_W m_X9_letterAt d 0 [.long v2, .retAddr 0, .int v4] [] M (fun o M1 => mx_sh M1 = mx_sh M ∧ mx_R M1 = mx_R M ∧ (∃ x2 : Int32, o = .inl (some (.int x2)) ∧ ((x2 = 0 → Q (.inl none) M1) ∧ (¬ x2 = 0 → (mx_W m_X9_letterAt d 0 [.long v2, .retAddr 0, .int v4] [] M1 (fun o M3 => mx_sh M3 = mx_sh M1 ∧ mx_R M3 = mx_R M1 ∧ (∃ x4 : Int32, o = .inl (some (.int x4)) ∧ (mx_W m_X3_writeSign d 0 [.ref 24, .int v1, .int x4] [] M3 (fun o M5 => mx_sh M5 = mx_sh M3 ∧ mx_R M5 = mx_R M3 ∧ (o = .inl none ∧ mx_W m_X3_writeWord (d + 1) 25 [.ref 24, .int v1, .long v2, .retAddr 0, .int (v4 + 1)] [] M5 Q)))))))))))))) :
    mx_W m_X3_writeWord (d + 1) 25 [.ref 24, .int v1, .long v2, .retAddr 0, .int v4] [] M Q := by
  refine mx_iload 4 (mx_da t_X3_writeWord 14 rfl) rfl rfl ?_
  refine mx_bipush (v := 8) (mx_da t_X3_writeWord 15 rfl) rfl rfl ?_
  refine mx_icmp_ge 58 (mx_da t_X3_writeWord 16 rfl) rfl rfl (fun g9 => ?_) (fun g9 => ?_)
  · have h := h.1 g9
    exact mx_vret rfl (mx_da t_X3_writeWord 29 rfl) h
  · have h := h.2 g9
    refine mx_lload_n 2 (mx_da t_X3_writeWord 17 rfl) rfl rfl rfl ?_
    refine mx_iload 4 (mx_da t_X3_writeWord 18 rfl) rfl rfl ?_
    refine mx_callS yX9_letterAt m_X9_letterAt [.long v2, .int v4] mm_X9_letterAt ml_RX3_85 st_X9_letterAt rfl (Nat.le_of_ble_eq_true rfl) (mx_da t_X3_writeWord 19 rfl) rfl (Nat.le_of_ble_eq_true rfl) rfl ?_
    refine mx_mono h ?_
    intro o M1 ho
    obtain ⟨e1, e2, ho⟩ := ho
    obtain ⟨x2, rfl, h⟩ := ho
    refine ⟨e1, ?_⟩
    have T := tp_of e1 e2 T
    clear e1 e2
    show mx_W m_X3_writeWord (d + 1) 38 [.ref 24, .int v1, .long v2, .retAddr 0, .int v4] [.int x2] M1 Q
    refine mx_if_eq 58 (mx_da t_X3_writeWord 20 rfl) rfl rfl (fun g9 => ?_) (fun g9 => ?_)
    · have h := h.1 g9
      exact mx_vret rfl (mx_da t_X3_writeWord 29 rfl) h
    · have h := h.2 g9
      refine mx_aload_n 0 (mx_da t_X3_writeWord 21 rfl) rfl rfl rfl rfl ?_
      refine mx_iload_n 1 (mx_da t_X3_writeWord 22 rfl) rfl rfl rfl ?_
      refine mx_lload_n 2 (mx_da t_X3_writeWord 23 rfl) rfl rfl rfl ?_
      refine mx_iload 4 (mx_da t_X3_writeWord 24 rfl) rfl rfl ?_
      refine mx_callS yX9_letterAt m_X9_letterAt [.long v2, .int v4] mm_X9_letterAt ml_RX3_85 st_X9_letterAt rfl (Nat.le_of_ble_eq_true rfl) (mx_da t_X3_writeWord 25 rfl) rfl (Nat.le_of_ble_eq_true rfl) rfl ?_
      refine mx_mono h ?_
      intro o M3 ho
      obtain ⟨e1, e2, ho⟩ := ho
      obtain ⟨x4, rfl, h⟩ := ho
      refine ⟨e1, ?_⟩
      have T := tp_of e1 e2 T
      clear e1 e2
      show mx_W m_X3_writeWord (d + 1) 49 [.ref 24, .int v1, .long v2, .retAddr 0, .int v4] [.int x4, .int v1, .ref 24] M3 Q
      refine mx_callV yX3_writeSign m_X3_writeSign [.int v1, .int x4] mm_X3_writeSign ml_RX3_116 im_X3_writeSign se_X3_writeSign (tp_s T 24 rfl) rfl rfl (Nat.le_of_ble_eq_true rfl) (mx_da t_X3_writeWord 26 rfl) rfl (Nat.le_of_ble_eq_true rfl) rfl ?_
      refine mx_mono h ?_
      intro o M5 ho
      obtain ⟨e1, e2, ho⟩ := ho
      obtain ⟨rfl, h⟩ := ho
      refine ⟨e1, ?_⟩
      have T := tp_of e1 e2 T
      clear e1 e2
      show mx_W m_X3_writeWord (d + 1) 52 [.ref 24, .int v1, .long v2, .retAddr 0, .int v4] [] M5 Q
      refine mx_iinc 4 (v := v4 + 1) [.ref 24, .int v1, .long v2, .retAddr 0, .int (v4 + 1)] (mx_da t_X3_writeWord 27 rfl) rfl (by decide) rfl rfl rfl ?_
      refine mx_goto (n := 25) (mx_da t_X3_writeWord 28 rfl) rfl ?_
      exact h
set_option maxHeartbeats 1000000 in
theorem x_X3_writeSign_0 {d : Nat} {M : mx_M} {Q : mx_O → mx_M → Prop} (T : mx_Tp M) (v1 : Int32) (v2 : Int32)
    (h : (vp_in v1 50 ∧ (((35 : Int32) ≤ (mx_I M 26 v1.toNatClampNeg) → Q (.inl none) M) ∧ (¬ (35 : Int32) ≤ (mx_I M 26 v1.toNatClampNeg) → (vp_in v1 50 ∧ (vp_in ((v1 * 35) + (mx_I M 26 v1.toNatClampNeg)) 1750 ∧ (∀ M1, M1 = mx_setI M 25 (((v1 * 35) + (mx_I M 26 v1.toNatClampNeg)).toNatClampNeg) v2 → (vp_in v1 50 ∧ (vp_in v1 50 ∧ (∀ M2, M2 = mx_setI M1 26 (v1.toNatClampNeg) ((mx_I M1 26 v1.toNatClampNeg) + 1) → Q (.inl none) M2)))))))))) :
    mx_W m_X3_writeSign d 0 [.ref 24, .int v1, .int v2] [] M Q := by
  refine mx_aload_n 0 (mx_da t_X3_writeSign 0 rfl) rfl rfl rfl rfl ?_
  refine mx_getR 26 fs_RX3_15 rfl (tp_s T 24 rfl) (tp_r T 23 rfl) (mx_da t_X3_writeSign 1 rfl) rfl ?_
  refine mx_iload_n 1 (mx_da t_X3_writeSign 2 rfl) rfl rfl rfl ?_
  refine mx_iald (tp_s T 26 rfl) h.1 (mx_da t_X3_writeSign 3 rfl) rfl ?_
  have h := h.2
  refine mx_bipush (v := 35) (mx_da t_X3_writeSign 4 rfl) rfl rfl ?_
  refine mx_icmp_ge 38 (mx_da t_X3_writeSign 5 rfl) rfl rfl (fun g9 => ?_) (fun g9 => ?_)
  · have h := h.1 g9
    exact mx_vret rfl (mx_da t_X3_writeSign 26 rfl) h
  · have h := h.2 g9
    refine mx_aload_n 0 (mx_da t_X3_writeSign 6 rfl) rfl rfl rfl rfl ?_
    refine mx_getR 25 fs_RX3_11 rfl (tp_s T 24 rfl) (tp_r T 22 rfl) (mx_da t_X3_writeSign 7 rfl) rfl ?_
    refine mx_iload_n 1 (mx_da t_X3_writeSign 8 rfl) rfl rfl rfl ?_
    refine mx_bipush (v := 35) (mx_da t_X3_writeSign 9 rfl) rfl rfl ?_
    refine mx_imul (mx_da t_X3_writeSign 10 rfl) rfl ?_
    refine mx_aload_n 0 (mx_da t_X3_writeSign 11 rfl) rfl rfl rfl rfl ?_
    refine mx_getR 26 fs_RX3_15 rfl (tp_s T 24 rfl) (tp_r T 23 rfl) (mx_da t_X3_writeSign 12 rfl) rfl ?_
    refine mx_iload_n 1 (mx_da t_X3_writeSign 13 rfl) rfl rfl rfl ?_
    refine mx_iald (tp_s T 26 rfl) h.1 (mx_da t_X3_writeSign 14 rfl) rfl ?_
    have h := h.2
    refine mx_iadd (mx_da t_X3_writeSign 15 rfl) rfl ?_
    refine mx_iload_n 2 (mx_da t_X3_writeSign 16 rfl) rfl rfl rfl ?_
    refine mx_iast (tp_s T 25 rfl) h.1 (mx_da t_X3_writeSign 17 rfl) rfl ?_
    have h := h.2
    refine mx_gen (mx_setI M 25 (((v1 * 35) + (mx_I M 26 v1.toNatClampNeg)).toNatClampNeg) v2) (fun M1 e9 => ?_)
    have h := h _ e9
    have T : mx_Tp M1 := tp_e e9 T
    refine mx_aload_n 0 (mx_da t_X3_writeSign 18 rfl) rfl rfl rfl rfl ?_
    refine mx_getR 26 fs_RX3_15 rfl (tp_s T 24 rfl) (tp_r T 23 rfl) (mx_da t_X3_writeSign 19 rfl) rfl ?_
    refine mx_iload_n 1 (mx_da t_X3_writeSign 20 rfl) rfl rfl rfl ?_
    refine mx_dup2 (mx_da t_X3_writeSign 21 rfl) rfl rfl rfl ?_
    refine mx_iald (tp_s T 26 rfl) h.1 (mx_da t_X3_writeSign 22 rfl) rfl ?_
    have h := h.2
    refine mx_iconst (v := 1) (mx_da t_X3_writeSign 23 rfl) rfl rfl ?_
    refine mx_iadd (mx_da t_X3_writeSign 24 rfl) rfl ?_
    refine mx_iast (tp_s T 26 rfl) h.1 (mx_da t_X3_writeSign 25 rfl) rfl ?_
    have h := h.2
    refine mx_gen (mx_setI M1 26 (v1.toNatClampNeg) ((mx_I M1 26 v1.toNatClampNeg) + 1)) (fun M2 e9 => ?_)
    have h := h _ e9
    have T : mx_Tp M2 := tp_e e9 T
    exact mx_vret rfl (mx_da t_X3_writeSign 26 rfl) h
set_option maxHeartbeats 1000000 in
theorem x_X3_rankAll_0 {d : Nat} {M : mx_M} {Q : mx_O → mx_M → Prop} (T : mx_Tp M) (c : Nat) (hc : mx_Cat c) (v2 : Int32) (v3 : Int32)
    (h : mx_W m_X3_rankAll (d + 1) 3 [.ref 24, .ref c, .int v2, .int v3, .int 0, .retAddr 0, .retAddr 0] [] M Q) :
    mx_W m_X3_rankAll (d + 1) 0 [.ref 24, .ref c, .int v2, .int v3, .retAddr 0, .retAddr 0, .retAddr 0] [] M Q := by
  refine mx_iconst (v := 0) (mx_da t_X3_rankAll 0 rfl) rfl rfl ?_
  refine mx_istore 4 [.ref 24, .ref c, .int v2, .int v3, .int 0, .retAddr 0, .retAddr 0] (mx_da t_X3_rankAll 1 rfl) rfl (by decide) rfl ?_
  exact h
set_option maxHeartbeats 1000000 in
theorem x_X3_rankAll_3 {d : Nat} {M : mx_M} {Q : mx_O → mx_M → Prop} (T : mx_Tp M) (c : Nat) (hc : mx_Cat c) (v2 : Int32) (v3 : Int32) (v4 : Int32)
    (h : (((mx_I M c 12) ≤ v4 → mx_W m_X3_rankAll (d + 1) 31 [.ref 24, .ref c, .int v2, .int v3, .int 0, .retAddr 0, .retAddr 0] [] M Q) ∧ (¬ (mx_I M c 12) ≤ v4 → (vp_in (v3 + v4) 50 ∧ (∀ M1, M1 = mx_setI M 27 ((v3 + v4).toNatClampNeg) 0 → mx_W m_X3_rankAll (d + 1) 3 [.ref 24, .ref c, .int v2, .int v3, .int (v4 + 1), .retAddr 0, .retAddr 0] [] M1 Q))))) :
    mx_W m_X3_rankAll (d + 1) 3 [.ref 24, .ref c, .int v2, .int v3, .int v4, .retAddr 0, .retAddr 0] [] M Q := by
  refine mx_iload 4 (mx_da t_X3_rankAll 2 rfl) rfl rfl ?_
  refine mx_aload_n 1 (mx_da t_X3_rankAll 3 rfl) rfl rfl rfl rfl ?_
  refine mx_getI fs_RX3_63 rfl (cat_s T hc) (mx_da t_X3_rankAll 4 rfl) rfl ?_
  refine mx_icmp_ge 28 (mx_da t_X3_rankAll 5 rfl) rfl rfl (fun g9 => ?_) (fun g9 => ?_)
  · have h := h.1 g9
    refine mx_iconst (v := 0) (mx_da t_X3_rankAll 15 rfl) rfl rfl ?_
    refine mx_istore 4 [.ref 24, .ref c, .int v2, .int v3, .int 0, .retAddr 0, .retAddr 0] (mx_da t_X3_rankAll 16 rfl) rfl (by decide) rfl ?_
    exact h
  · have h := h.2 g9
    refine mx_aload_n 0 (mx_da t_X3_rankAll 6 rfl) rfl rfl rfl rfl ?_
    refine mx_getR 27 fs_RX3_18 rfl (tp_s T 24 rfl) (tp_r T 24 rfl) (mx_da t_X3_rankAll 7 rfl) rfl ?_
    refine mx_iload_n 3 (mx_da t_X3_rankAll 8 rfl) rfl rfl rfl ?_
    refine mx_iload 4 (mx_da t_X3_rankAll 9 rfl) rfl rfl ?_
    refine mx_iadd (mx_da t_X3_rankAll 10 rfl) rfl ?_
    refine mx_iconst (v := 0) (mx_da t_X3_rankAll 11 rfl) rfl rfl ?_
    refine mx_iast (tp_s T 27 rfl) h.1 (mx_da t_X3_rankAll 12 rfl) rfl ?_
    have h := h.2
    refine mx_gen (mx_setI M 27 ((v3 + v4).toNatClampNeg) 0) (fun M1 e9 => ?_)
    have h := h _ e9
    have T : mx_Tp M1 := tp_e e9 T
    refine mx_iinc 4 (v := v4 + 1) [.ref 24, .ref c, .int v2, .int v3, .int (v4 + 1), .retAddr 0, .retAddr 0] (mx_da t_X3_rankAll 13 rfl) rfl (by decide) rfl rfl rfl ?_
    refine mx_goto (n := 3) (mx_da t_X3_rankAll 14 rfl) rfl ?_
    exact h
set_option maxHeartbeats 1000000 in
theorem x_X3_rankAll_31 {d : Nat} {M : mx_M} {Q : mx_O → mx_M → Prop} (T : mx_Tp M) (c : Nat) (hc : mx_Cat c) (v2 : Int32) (v3 : Int32) (v4 : Int32)
    (h : (((mx_I M c 12) ≤ v4 → mx_W m_X3_rankAll (d + 1) 106 [.ref 24, .ref c, .retAddr 0, .int v3, .int 0, .retAddr 0, .retAddr 0] [] M Q) ∧ (¬ (mx_I M c 12) ≤ v4 → mx_W m_X3_rankAll (d + 1) 46 [.ref 24, .ref c, .int v2, .int v3, .int v4, .int (v4 + 1), .retAddr 0] [] M Q))) :
    mx_W m_X3_rankAll (d + 1) 31 [.ref 24, .ref c, .int v2, .int v3, .int v4, .retAddr 0, .retAddr 0] [] M Q := by
  refine mx_iload 4 (mx_da t_X3_rankAll 17 rfl) rfl rfl ?_
  refine mx_aload_n 1 (mx_da t_X3_rankAll 18 rfl) rfl rfl rfl rfl ?_
  refine mx_getI fs_RX3_63 rfl (cat_s T hc) (mx_da t_X3_rankAll 19 rfl) rfl ?_
  refine mx_icmp_ge 103 (mx_da t_X3_rankAll 20 rfl) rfl rfl (fun g9 => ?_) (fun g9 => ?_)
  · have h := h.1 g9
    refine mx_iconst (v := 0) (mx_da t_X3_rankAll 55 rfl) rfl rfl ?_
    refine mx_istore 4 [.ref 24, .ref c, .int v2, .int v3, .int 0, .retAddr 0, .retAddr 0] (mx_da t_X3_rankAll 56 rfl) rfl (by decide) rfl ?_
    exact mx_wkn [.ref 24, .ref c, .retAddr 0, .int v3, .int 0, .retAddr 0, .retAddr 0] ⟨Or.inr rfl, Or.inr rfl, Or.inl rfl, Or.inr rfl, Or.inr rfl, Or.inr rfl, Or.inr rfl, trivial⟩ h
  · have h := h.2 g9
    refine mx_iload 4 (mx_da t_X3_rankAll 21 rfl) rfl rfl ?_
    refine mx_iconst (v := 1) (mx_da t_X3_rankAll 22 rfl) rfl rfl ?_
    refine mx_iadd (mx_da t_X3_rankAll 23 rfl) rfl ?_
    refine mx_istore 5 [.ref 24, .ref c, .int v2, .int v3, .int v4, .int (v4 + 1), .retAddr 0] (mx_da t_X3_rankAll 24 rfl) rfl (by decide) rfl ?_
    exact h
set_option maxHeartbeats 1000000 in
theorem x_X3_rankAll_46 {d : Nat} {M : mx_M} {Q : mx_O → mx_M → Prop} (T : mx_Tp M) (c : Nat) (hc : mx_Cat c) (v2 : Int32) (v3 : Int32) (v4 : Int32) (v5 : Int32)
    (h : (((mx_I M c 12) ≤ v5 → mx_W m_X3_rankAll (d + 1) 31 [.ref 24, .ref c, .int v2, .int v3, .int (v4 + 1), .retAddr 0, .retAddr 0] [] M Q) ∧ (¬ (mx_I M c 12) ≤ v5 → (mx_W m_X3_goesAhead d 0 [.ref 24, .ref c, .int v2, .int v3, .int v4, .int v5, .retAddr 0] [] M (fun o M1 => mx_sh M1 = mx_sh M ∧ mx_R M1 = mx_R M ∧ (∃ x2 : Bool, o = .inl (some (.int (mx_b x2))) ∧ ((x2 = false → (vp_in (v3 + v4) 50 ∧ (vp_in (v3 + v4) 50 ∧ (∀ M3, M3 = mx_setI M1 27 ((v3 + v4).toNatClampNeg) ((mx_I M1 27 (v3 + v4).toNatClampNeg) + 1) → mx_W m_X3_rankAll (d + 1) 46 [.ref 24, .ref c, .int v2, .int v3, .int v4, .int (v5 + 1), .retAddr 0] [] M3 Q)))) ∧ (x2 = true → (vp_in (v3 + v5) 50 ∧ (vp_in (v3 + v5) 50 ∧ (∀ M4, M4 = mx_setI M1 27 ((v3 + v5).toNatClampNeg) ((mx_I M1 27 (v3 + v5).toNatClampNeg) + 1) → mx_W m_X3_rankAll (d + 1) 46 [.ref 24, .ref c, .int v2, .int v3, .int v4, .int (v5 + 1), .retAddr 0] [] M4 Q))))))))))) :
    mx_W m_X3_rankAll (d + 1) 46 [.ref 24, .ref c, .int v2, .int v3, .int v4, .int v5, .retAddr 0] [] M Q := by
  refine mx_iload 5 (mx_da t_X3_rankAll 25 rfl) rfl rfl ?_
  refine mx_aload_n 1 (mx_da t_X3_rankAll 26 rfl) rfl rfl rfl rfl ?_
  refine mx_getI fs_RX3_63 rfl (cat_s T hc) (mx_da t_X3_rankAll 27 rfl) rfl ?_
  refine mx_icmp_ge 97 (mx_da t_X3_rankAll 28 rfl) rfl rfl (fun g9 => ?_) (fun g9 => ?_)
  · have h := h.1 g9
    refine mx_iinc 4 (v := v4 + 1) [.ref 24, .ref c, .int v2, .int v3, .int (v4 + 1), .int v5, .retAddr 0] (mx_da t_X3_rankAll 53 rfl) rfl (by decide) rfl rfl rfl ?_
    refine mx_goto (n := 31) (mx_da t_X3_rankAll 54 rfl) rfl ?_
    exact mx_wkn [.ref 24, .ref c, .int v2, .int v3, .int (v4 + 1), .retAddr 0, .retAddr 0] ⟨Or.inr rfl, Or.inr rfl, Or.inr rfl, Or.inr rfl, Or.inr rfl, Or.inl rfl, Or.inr rfl, trivial⟩ h
  · have h := h.2 g9
    refine mx_aload_n 0 (mx_da t_X3_rankAll 29 rfl) rfl rfl rfl rfl ?_
    refine mx_aload_n 1 (mx_da t_X3_rankAll 30 rfl) rfl rfl rfl rfl ?_
    refine mx_iload_n 2 (mx_da t_X3_rankAll 31 rfl) rfl rfl rfl ?_
    refine mx_iload_n 3 (mx_da t_X3_rankAll 32 rfl) rfl rfl rfl ?_
    refine mx_iload 4 (mx_da t_X3_rankAll 33 rfl) rfl rfl ?_
    refine mx_iload 5 (mx_da t_X3_rankAll 34 rfl) rfl rfl ?_
    refine mx_callV yX3_goesAhead m_X3_goesAhead [.ref c, .int v2, .int v3, .int v4, .int v5] mm_X3_goesAhead ml_RX3_120 im_X3_goesAhead se_X3_goesAhead (tp_s T 24 rfl) rfl rfl (Nat.le_of_ble_eq_true rfl) (mx_da t_X3_rankAll 35 rfl) rfl (Nat.le_of_ble_eq_true rfl) rfl ?_
    refine mx_mono h ?_
    intro o M1 ho
    obtain ⟨e1, e2, ho⟩ := ho
    obtain ⟨x2, rfl, h⟩ := ho
    refine ⟨e1, ?_⟩
    have T := tp_of e1 e2 T
    clear e1 e2
    show mx_W m_X3_rankAll (d + 1) 66 [.ref 24, .ref c, .int v2, .int v3, .int v4, .int v5, .retAddr 0] [.int (mx_b x2)] M1 Q
    refine mx_istore 6 [.ref 24, .ref c, .int v2, .int v3, .int v4, .int v5, .int (mx_b x2)] (mx_da t_X3_rankAll 36 rfl) rfl (by decide) rfl ?_
    refine mx_aload_n 0 (mx_da t_X3_rankAll 37 rfl) rfl rfl rfl rfl ?_
    refine mx_getR 27 fs_RX3_18 rfl (tp_s T 24 rfl) (tp_r T 24 rfl) (mx_da t_X3_rankAll 38 rfl) rfl ?_
    refine mx_iload_n 3 (mx_da t_X3_rankAll 39 rfl) rfl rfl rfl ?_
    refine mx_iload 6 (mx_da t_X3_rankAll 40 rfl) rfl rfl ?_
    refine mx_if_eq 83 (mx_da t_X3_rankAll 41 rfl) rfl rfl (fun g9 => ?_) (fun g9 => ?_)
    · have h := h.1 (mx_b0.mp g9)
      refine mx_iload 4 (mx_da t_X3_rankAll 44 rfl) rfl rfl ?_
      refine mx_iadd (mx_da t_X3_rankAll 45 rfl) rfl ?_
      refine mx_dup2 (mx_da t_X3_rankAll 46 rfl) rfl rfl rfl ?_
      refine mx_iald (tp_s T 27 rfl) h.1 (mx_da t_X3_rankAll 47 rfl) rfl ?_
      have h := h.2
      refine mx_iconst (v := 1) (mx_da t_X3_rankAll 48 rfl) rfl rfl ?_
      refine mx_iadd (mx_da t_X3_rankAll 49 rfl) rfl ?_
      refine mx_iast (tp_s T 27 rfl) h.1 (mx_da t_X3_rankAll 50 rfl) rfl ?_
      have h := h.2
      refine mx_gen (mx_setI M1 27 ((v3 + v4).toNatClampNeg) ((mx_I M1 27 (v3 + v4).toNatClampNeg) + 1)) (fun M3 e9 => ?_)
      have h := h _ e9
      have T : mx_Tp M3 := tp_e e9 T
      refine mx_iinc 5 (v := v5 + 1) [.ref 24, .ref c, .int v2, .int v3, .int v4, .int (v5 + 1), .int (mx_b x2)] (mx_da t_X3_rankAll 51 rfl) rfl (by decide) rfl rfl rfl ?_
      refine mx_goto (n := 46) (mx_da t_X3_rankAll 52 rfl) rfl ?_
      exact mx_wkn [.ref 24, .ref c, .int v2, .int v3, .int v4, .int (v5 + 1), .retAddr 0] ⟨Or.inr rfl, Or.inr rfl, Or.inr rfl, Or.inr rfl, Or.inr rfl, Or.inr rfl, Or.inl rfl, trivial⟩ h
    · have h := h.2 (mx_bn.mp g9)
      refine mx_iload 5 (mx_da t_X3_rankAll 42 rfl) rfl rfl ?_
      refine mx_goto (n := 85) (mx_da t_X3_rankAll 43 rfl) rfl ?_
      refine mx_iadd (mx_da t_X3_rankAll 45 rfl) rfl ?_
      refine mx_dup2 (mx_da t_X3_rankAll 46 rfl) rfl rfl rfl ?_
      refine mx_iald (tp_s T 27 rfl) h.1 (mx_da t_X3_rankAll 47 rfl) rfl ?_
      have h := h.2
      refine mx_iconst (v := 1) (mx_da t_X3_rankAll 48 rfl) rfl rfl ?_
      refine mx_iadd (mx_da t_X3_rankAll 49 rfl) rfl ?_
      refine mx_iast (tp_s T 27 rfl) h.1 (mx_da t_X3_rankAll 50 rfl) rfl ?_
      have h := h.2
      refine mx_gen (mx_setI M1 27 ((v3 + v5).toNatClampNeg) ((mx_I M1 27 (v3 + v5).toNatClampNeg) + 1)) (fun M4 e9 => ?_)
      have h := h _ e9
      have T : mx_Tp M4 := tp_e e9 T
      refine mx_iinc 5 (v := v5 + 1) [.ref 24, .ref c, .int v2, .int v3, .int v4, .int (v5 + 1), .int (mx_b x2)] (mx_da t_X3_rankAll 51 rfl) rfl (by decide) rfl rfl rfl ?_
      refine mx_goto (n := 46) (mx_da t_X3_rankAll 52 rfl) rfl ?_
      exact mx_wkn [.ref 24, .ref c, .int v2, .int v3, .int v4, .int (v5 + 1), .retAddr 0] ⟨Or.inr rfl, Or.inr rfl, Or.inr rfl, Or.inr rfl, Or.inr rfl, Or.inr rfl, Or.inl rfl, trivial⟩ h
set_option maxHeartbeats 1000000 in
theorem x_X3_rankAll_106 {d : Nat} {M : mx_M} {Q : mx_O → mx_M → Prop} (T : mx_Tp M) (c : Nat) (hc : mx_Cat c) (v3 : Int32) (v4 : Int32)
    (h : (((mx_I M c 12) ≤ v4 → Q (.inl none) M) ∧ (¬ (mx_I M c 12) ≤ v4 → (vp_in (v3 + v4) 50 ∧ (vp_in (v3 + (mx_I M 27 (v3 + v4).toNatClampNeg)) 50 ∧ (∀ M1, M1 = mx_setI M 28 ((v3 + (mx_I M 27 (v3 + v4).toNatClampNeg)).toNatClampNeg) v4 → mx_W m_X3_rankAll (d + 1) 106 [.ref 24, .ref c, .retAddr 0, .int v3, .int (v4 + 1), .retAddr 0, .retAddr 0] [] M1 Q)))))) :
    mx_W m_X3_rankAll (d + 1) 106 [.ref 24, .ref c, .retAddr 0, .int v3, .int v4, .retAddr 0, .retAddr 0] [] M Q := by
  refine mx_iload 4 (mx_da t_X3_rankAll 57 rfl) rfl rfl ?_
  refine mx_aload_n 1 (mx_da t_X3_rankAll 58 rfl) rfl rfl rfl rfl ?_
  refine mx_getI fs_RX3_63 rfl (cat_s T hc) (mx_da t_X3_rankAll 59 rfl) rfl ?_
  refine mx_icmp_ge 139 (mx_da t_X3_rankAll 60 rfl) rfl rfl (fun g9 => ?_) (fun g9 => ?_)
  · have h := h.1 g9
    exact mx_vret rfl (mx_da t_X3_rankAll 75 rfl) h
  · have h := h.2 g9
    refine mx_aload_n 0 (mx_da t_X3_rankAll 61 rfl) rfl rfl rfl rfl ?_
    refine mx_getR 28 fs_RX3_21 rfl (tp_s T 24 rfl) (tp_r T 25 rfl) (mx_da t_X3_rankAll 62 rfl) rfl ?_
    refine mx_iload_n 3 (mx_da t_X3_rankAll 63 rfl) rfl rfl rfl ?_
    refine mx_aload_n 0 (mx_da t_X3_rankAll 64 rfl) rfl rfl rfl rfl ?_
    refine mx_getR 27 fs_RX3_18 rfl (tp_s T 24 rfl) (tp_r T 24 rfl) (mx_da t_X3_rankAll 65 rfl) rfl ?_
    refine mx_iload_n 3 (mx_da t_X3_rankAll 66 rfl) rfl rfl rfl ?_
    refine mx_iload 4 (mx_da t_X3_rankAll 67 rfl) rfl rfl ?_
    refine mx_iadd (mx_da t_X3_rankAll 68 rfl) rfl ?_
    refine mx_iald (tp_s T 27 rfl) h.1 (mx_da t_X3_rankAll 69 rfl) rfl ?_
    have h := h.2
    refine mx_iadd (mx_da t_X3_rankAll 70 rfl) rfl ?_
    refine mx_iload 4 (mx_da t_X3_rankAll 71 rfl) rfl rfl ?_
    refine mx_iast (tp_s T 28 rfl) h.1 (mx_da t_X3_rankAll 72 rfl) rfl ?_
    have h := h.2
    refine mx_gen (mx_setI M 28 ((v3 + (mx_I M 27 (v3 + v4).toNatClampNeg)).toNatClampNeg) v4) (fun M1 e9 => ?_)
    have h := h _ e9
    have T : mx_Tp M1 := tp_e e9 T
    refine mx_iinc 4 (v := v4 + 1) [.ref 24, .ref c, .retAddr 0, .int v3, .int (v4 + 1), .retAddr 0, .retAddr 0] (mx_da t_X3_rankAll 73 rfl) rfl (by decide) rfl rfl rfl ?_
    refine mx_goto (n := 106) (mx_da t_X3_rankAll 74 rfl) rfl ?_
    exact h
set_option maxHeartbeats 1000000 in
theorem x_X3_goesAhead_0 {d : Nat} {M : mx_M} {Q : mx_O → mx_M → Prop} (T : mx_Tp M) (c : Nat) (hc : mx_Cat c) (v2 : Int32) (v3 : Int32) (v4 : Int32) (v5 : Int32)
    (h : (mx_W m_X3_comparedKeys d 0 [.ref 24, .int (v3 + v4), .int (v3 + v5), .retAddr 0] [] M (fun o M1 => mx_sh M1 = mx_sh M ∧ mx_R M1 = mx_R M ∧ (∃ x2 : Int32, o = .inl (some (.int x2)) ∧ ((¬ x2 = 0 → ((0 < x2 → Q (.inl (some (.int (mx_b false)))) M1) ∧ (¬ 0 < x2 → Q (.inl (some (.int (mx_b true)))) M1))) ∧ (x2 = 0 → (mx_W m_X3_tieOf d 0 [.ref 24, .ref c, .int v2, .int v4] [] M1 (fun o M3 => mx_sh M3 = mx_sh M1 ∧ mx_R M3 = mx_R M1 ∧ (∃ x4 : Int32, o = .inl (some (.int x4)) ∧ (mx_W m_X3_tieOf d 0 [.ref 24, .ref c, .int v2, .int v5] [] M3 (fun o M5 => mx_sh M5 = mx_sh M3 ∧ mx_R M5 = mx_R M3 ∧ (∃ x6 : Int32, o = .inl (some (.int x6)) ∧ (mx_W m_J6_compare_7cf53 d 0 [.int x4, .int x6] [] M5 (fun o M7 => mx_sh M7 = mx_sh M5 ∧ mx_R M7 = mx_R M5 ∧ (∃ x8 : Int32, o = .inl (some (.int x8)) ∧ ((0 < x8 → Q (.inl (some (.int (mx_b false)))) M7) ∧ (¬ 0 < x8 → Q (.inl (some (.int (mx_b true)))) M7))))))))))))))))) :
    mx_W m_X3_goesAhead (d + 1) 0 [.ref 24, .ref c, .int v2, .int v3, .int v4, .int v5, .retAddr 0] [] M Q := by
  refine mx_aload_n 0 (mx_da t_X3_goesAhead 0 rfl) rfl rfl rfl rfl ?_
  refine mx_iload_n 3 (mx_da t_X3_goesAhead 1 rfl) rfl rfl rfl ?_
  refine mx_iload 4 (mx_da t_X3_goesAhead 2 rfl) rfl rfl ?_
  refine mx_iadd (mx_da t_X3_goesAhead 3 rfl) rfl ?_
  refine mx_iload_n 3 (mx_da t_X3_goesAhead 4 rfl) rfl rfl rfl ?_
  refine mx_iload 5 (mx_da t_X3_goesAhead 5 rfl) rfl rfl ?_
  refine mx_iadd (mx_da t_X3_goesAhead 6 rfl) rfl ?_
  refine mx_callV yX3_comparedKeys m_X3_comparedKeys [.int (v3 + v4), .int (v3 + v5)] mm_X3_comparedKeys ml_RX3_124 im_X3_comparedKeys se_X3_comparedKeys (tp_s T 24 rfl) rfl rfl (Nat.le_of_ble_eq_true rfl) (mx_da t_X3_goesAhead 7 rfl) rfl (Nat.le_of_ble_eq_true rfl) rfl ?_
  refine mx_mono h ?_
  intro o M1 ho
  obtain ⟨e1, e2, ho⟩ := ho
  obtain ⟨x2, rfl, h⟩ := ho
  refine ⟨e1, ?_⟩
  have T := tp_of e1 e2 T
  clear e1 e2
  show mx_W m_X3_goesAhead (d + 1) 12 [.ref 24, .ref c, .int v2, .int v3, .int v4, .int v5, .retAddr 0] [.int x2] M1 Q
  refine mx_istore 6 [.ref 24, .ref c, .int v2, .int v3, .int v4, .int v5, .int x2] (mx_da t_X3_goesAhead 8 rfl) rfl (by decide) rfl ?_
  refine mx_iload 6 (mx_da t_X3_goesAhead 9 rfl) rfl rfl ?_
  refine mx_if_ne 40 (mx_da t_X3_goesAhead 10 rfl) rfl rfl (fun g9 => ?_) (fun g9 => ?_)
  · have h := h.1 g9
    refine mx_iload 6 (mx_da t_X3_goesAhead 23 rfl) rfl rfl ?_
    refine mx_if_gt 49 (mx_da t_X3_goesAhead 24 rfl) rfl rfl (fun g9 => ?_) (fun g9 => ?_)
    · have h := h.1 g9
      refine mx_iconst (v := 0) (mx_da t_X3_goesAhead 27 rfl) rfl rfl ?_
      exact mx_zret rfl rfl (mx_da t_X3_goesAhead 28 rfl) h
    · have h := h.2 g9
      refine mx_iconst (v := 1) (mx_da t_X3_goesAhead 25 rfl) rfl rfl ?_
      refine mx_goto (n := 50) (mx_da t_X3_goesAhead 26 rfl) rfl ?_
      exact mx_zret rfl rfl (mx_da t_X3_goesAhead 28 rfl) h
  · have h := h.2 g9
    refine mx_aload_n 0 (mx_da t_X3_goesAhead 11 rfl) rfl rfl rfl rfl ?_
    refine mx_aload_n 1 (mx_da t_X3_goesAhead 12 rfl) rfl rfl rfl rfl ?_
    refine mx_iload_n 2 (mx_da t_X3_goesAhead 13 rfl) rfl rfl rfl ?_
    refine mx_iload 4 (mx_da t_X3_goesAhead 14 rfl) rfl rfl ?_
    refine mx_callV yX3_tieOf m_X3_tieOf [.ref c, .int v2, .int v4] mm_X3_tieOf ml_RX3_128 im_X3_tieOf se_X3_tieOf (tp_s T 24 rfl) rfl rfl (Nat.le_of_ble_eq_true rfl) (mx_da t_X3_goesAhead 15 rfl) rfl (Nat.le_of_ble_eq_true rfl) rfl ?_
    refine mx_mono h ?_
    intro o M3 ho
    obtain ⟨e1, e2, ho⟩ := ho
    obtain ⟨x4, rfl, h⟩ := ho
    refine ⟨e1, ?_⟩
    have T := tp_of e1 e2 T
    clear e1 e2
    show mx_W m_X3_goesAhead (d + 1) 27 [.ref 24, .ref c, .int v2, .int v3, .int v4, .int v5, .int x2] [.int x4] M3 Q
    refine mx_aload_n 0 (mx_da t_X3_goesAhead 16 rfl) rfl rfl rfl rfl ?_
    refine mx_aload_n 1 (mx_da t_X3_goesAhead 17 rfl) rfl rfl rfl rfl ?_
    refine mx_iload_n 2 (mx_da t_X3_goesAhead 18 rfl) rfl rfl rfl ?_
    refine mx_iload 5 (mx_da t_X3_goesAhead 19 rfl) rfl rfl ?_
    refine mx_callV yX3_tieOf m_X3_tieOf [.ref c, .int v2, .int v5] mm_X3_tieOf ml_RX3_128 im_X3_tieOf se_X3_tieOf (tp_s T 24 rfl) rfl rfl (Nat.le_of_ble_eq_true rfl) (mx_da t_X3_goesAhead 20 rfl) rfl (Nat.le_of_ble_eq_true rfl) rfl ?_
    refine mx_mono h ?_
    intro o M5 ho
    obtain ⟨e1, e2, ho⟩ := ho
    obtain ⟨x6, rfl, h⟩ := ho
    refine ⟨e1, ?_⟩
    have T := tp_of e1 e2 T
    clear e1 e2
    show mx_W m_X3_goesAhead (d + 1) 35 [.ref 24, .ref c, .int v2, .int v3, .int v4, .int v5, .int x2] [.int x6, .int x4] M5 Q
    refine mx_callS yJ6_compare_7cf53 m_J6_compare_7cf53 [.int x4, .int x6] mm_J6_compare_7cf53 ml_RX3_132 st_J6_compare_7cf53 rfl (Nat.le_of_ble_eq_true rfl) (mx_da t_X3_goesAhead 21 rfl) rfl (Nat.le_of_ble_eq_true rfl) rfl ?_
    refine mx_mono h ?_
    intro o M7 ho
    obtain ⟨e1, e2, ho⟩ := ho
    obtain ⟨x8, rfl, h⟩ := ho
    refine ⟨e1, ?_⟩
    have T := tp_of e1 e2 T
    clear e1 e2
    show mx_W m_X3_goesAhead (d + 1) 38 [.ref 24, .ref c, .int v2, .int v3, .int v4, .int v5, .int x2] [.int x8] M7 Q
    refine mx_istore 6 [.ref 24, .ref c, .int v2, .int v3, .int v4, .int v5, .int x8] (mx_da t_X3_goesAhead 22 rfl) rfl (by decide) rfl ?_
    refine mx_iload 6 (mx_da t_X3_goesAhead 23 rfl) rfl rfl ?_
    refine mx_if_gt 49 (mx_da t_X3_goesAhead 24 rfl) rfl rfl (fun g9 => ?_) (fun g9 => ?_)
    · have h := h.1 g9
      refine mx_iconst (v := 0) (mx_da t_X3_goesAhead 27 rfl) rfl rfl ?_
      exact mx_zret rfl rfl (mx_da t_X3_goesAhead 28 rfl) h
    · have h := h.2 g9
      refine mx_iconst (v := 1) (mx_da t_X3_goesAhead 25 rfl) rfl rfl ?_
      refine mx_goto (n := 50) (mx_da t_X3_goesAhead 26 rfl) rfl ?_
      exact mx_zret rfl rfl (mx_da t_X3_goesAhead 28 rfl) h
set_option maxHeartbeats 1000000 in
theorem x_X3_tieOf_0 {d : Nat} {M : mx_M} {Q : mx_O → mx_M → Prop} (T : mx_Tp M) (c : Nat) (hc : mx_Cat c) (v2 : Int32) (v3 : Int32)
    (h : (((mx_I M 24 9) = 0 → (vp_in v3 10 ∧ Q (.inl (some (.int (mx_I M (c + 1) v3.toNatClampNeg)))) M)) ∧ (¬ (mx_I M 24 9) = 0 → (vp_in ((v2 * 10) + v3) 40 ∧ Q (.inl (some (.int (mx_I M (c + 12) ((v2 * 10) + v3).toNatClampNeg)))) M)))) :
    mx_W m_X3_tieOf d 0 [.ref 24, .ref c, .int v2, .int v3] [] M Q := by
  refine mx_aload_n 0 (mx_da t_X3_tieOf 0 rfl) rfl rfl rfl rfl ?_
  refine mx_getI fs_RX3_44 rfl (tp_s T 24 rfl) (mx_da t_X3_tieOf 1 rfl) rfl ?_
  refine mx_if_eq 21 (mx_da t_X3_tieOf 2 rfl) rfl rfl (fun g9 => ?_) (fun g9 => ?_)
  · have h := h.1 g9
    refine mx_aload_n 1 (mx_da t_X3_tieOf 12 rfl) rfl rfl rfl rfl ?_
    refine mx_getR (c + 1) fs_RX3_140 rfl (cat_s T hc) (cat_r0 T hc) (mx_da t_X3_tieOf 13 rfl) rfl ?_
    refine mx_iload_n 3 (mx_da t_X3_tieOf 14 rfl) rfl rfl rfl ?_
    refine mx_iald (cat_a0 T hc) h.1 (mx_da t_X3_tieOf 15 rfl) rfl ?_
    have h := h.2
    exact mx_iret rfl (mx_da t_X3_tieOf 16 rfl) h
  · have h := h.2 g9
    refine mx_aload_n 1 (mx_da t_X3_tieOf 3 rfl) rfl rfl rfl rfl ?_
    refine mx_getR (c + 12) fs_RX3_137 rfl (cat_s T hc) (cat_r11 T hc) (mx_da t_X3_tieOf 4 rfl) rfl ?_
    refine mx_iload_n 2 (mx_da t_X3_tieOf 5 rfl) rfl rfl rfl ?_
    refine mx_bipush (v := 10) (mx_da t_X3_tieOf 6 rfl) rfl rfl ?_
    refine mx_imul (mx_da t_X3_tieOf 7 rfl) rfl ?_
    refine mx_iload_n 3 (mx_da t_X3_tieOf 8 rfl) rfl rfl rfl ?_
    refine mx_iadd (mx_da t_X3_tieOf 9 rfl) rfl ?_
    refine mx_iald (cat_a11 T hc) h.1 (mx_da t_X3_tieOf 10 rfl) rfl ?_
    have h := h.2
    refine mx_goto (n := 27) (mx_da t_X3_tieOf 11 rfl) rfl ?_
    exact mx_iret rfl (mx_da t_X3_tieOf 16 rfl) h
set_option maxHeartbeats 1000000 in
theorem x_X3_comparedKeys_0 {d : Nat} {M : mx_M} {Q : mx_O → mx_M → Prop} (T : mx_Tp M) (v1 : Int32) (v2 : Int32)
    (h : (mx_W m_X3_alikeSigns d 0 [.ref 24, .int v1, .int v2, .retAddr 0, .retAddr 0] [] M (fun o M1 => mx_sh M1 = mx_sh M ∧ mx_R M1 = mx_R M ∧ (∃ x2 : Int32, o = .inl (some (.int x2)) ∧ (vp_in v1 50 ∧ (((mx_I M1 26 v1.toNatClampNeg) ≤ x2 → (vp_in v1 50 ∧ (vp_in v2 50 ∧ (mx_W m_J6_compare_7cf53 d 0 [.int (mx_I M1 26 v1.toNatClampNeg), .int (mx_I M1 26 v2.toNatClampNeg)] [] M1 (fun o M3 => mx_sh M3 = mx_sh M1 ∧ mx_R M3 = mx_R M1 ∧ (∃ x4 : Int32, o = .inl (some (.int x4)) ∧ Q (.inl (some (.int x4))) M3)))))) ∧ (¬ (mx_I M1 26 v1.toNatClampNeg) ≤ x2 → (vp_in v2 50 ∧ (((mx_I M1 26 v2.toNatClampNeg) ≤ x2 → (vp_in v1 50 ∧ (vp_in v2 50 ∧ (mx_W m_J6_compare_7cf53 d 0 [.int (mx_I M1 26 v1.toNatClampNeg), .int (mx_I M1 26 v2.toNatClampNeg)] [] M1 (fun o M5 => mx_sh M5 = mx_sh M1 ∧ mx_R M5 = mx_R M1 ∧ (∃ x6 : Int32, o = .inl (some (.int x6)) ∧ Q (.inl (some (.int x6))) M5)))))) ∧ (¬ (mx_I M1 26 v2.toNatClampNeg) ≤ x2 → (vp_in ((v1 * 35) + x2) 1750 ∧ (vp_in ((v2 * 35) + x2) 1750 ∧ (mx_W m_J6_compare_7cf53 d 0 [.int (mx_I M1 25 ((v1 * 35) + x2).toNatClampNeg), .int (mx_I M1 25 ((v2 * 35) + x2).toNatClampNeg)] [] M1 (fun o M7 => mx_sh M7 = mx_sh M1 ∧ mx_R M7 = mx_R M1 ∧ (∃ x8 : Int32, o = .inl (some (.int x8)) ∧ Q (.inl (some (.int x8))) M7))))))))))))))) :
    mx_W m_X3_comparedKeys (d + 1) 0 [.ref 24, .int v1, .int v2, .retAddr 0] [] M Q := by
  refine mx_aload_n 0 (mx_da t_X3_comparedKeys 0 rfl) rfl rfl rfl rfl ?_
  refine mx_iload_n 1 (mx_da t_X3_comparedKeys 1 rfl) rfl rfl rfl ?_
  refine mx_iload_n 2 (mx_da t_X3_comparedKeys 2 rfl) rfl rfl rfl ?_
  refine mx_callV yX3_alikeSigns m_X3_alikeSigns [.int v1, .int v2] mm_X3_alikeSigns ml_RX3_143 im_X3_alikeSigns se_X3_alikeSigns (tp_s T 24 rfl) rfl rfl (Nat.le_of_ble_eq_true rfl) (mx_da t_X3_comparedKeys 3 rfl) rfl (Nat.le_of_ble_eq_true rfl) rfl ?_
  refine mx_mono h ?_
  intro o M1 ho
  obtain ⟨e1, e2, ho⟩ := ho
  obtain ⟨x2, rfl, h⟩ := ho
  refine ⟨e1, ?_⟩
  have T := tp_of e1 e2 T
  clear e1 e2
  show mx_W m_X3_comparedKeys (d + 1) 6 [.ref 24, .int v1, .int v2, .retAddr 0] [.int x2] M1 Q
  refine mx_istore_n 3 [.ref 24, .int v1, .int v2, .int x2] (mx_da t_X3_comparedKeys 4 rfl) rfl rfl (by decide) rfl ?_
  refine mx_iload_n 3 (mx_da t_X3_comparedKeys 5 rfl) rfl rfl rfl ?_
  refine mx_aload_n 0 (mx_da t_X3_comparedKeys 6 rfl) rfl rfl rfl rfl ?_
  refine mx_getR 26 fs_RX3_15 rfl (tp_s T 24 rfl) (tp_r T 23 rfl) (mx_da t_X3_comparedKeys 7 rfl) rfl ?_
  refine mx_iload_n 1 (mx_da t_X3_comparedKeys 8 rfl) rfl rfl rfl ?_
  refine mx_iald (tp_s T 26 rfl) h.1 (mx_da t_X3_comparedKeys 9 rfl) rfl ?_
  have h := h.2
  refine mx_icmp_ge 53 (mx_da t_X3_comparedKeys 10 rfl) rfl rfl (fun g9 => ?_) (fun g9 => ?_)
  · have h := h.1 g9
    refine mx_aload_n 0 (mx_da t_X3_comparedKeys 35 rfl) rfl rfl rfl rfl ?_
    refine mx_getR 26 fs_RX3_15 rfl (tp_s T 24 rfl) (tp_r T 23 rfl) (mx_da t_X3_comparedKeys 36 rfl) rfl ?_
    refine mx_iload_n 1 (mx_da t_X3_comparedKeys 37 rfl) rfl rfl rfl ?_
    refine mx_iald (tp_s T 26 rfl) h.1 (mx_da t_X3_comparedKeys 38 rfl) rfl ?_
    have h := h.2
    refine mx_aload_n 0 (mx_da t_X3_comparedKeys 39 rfl) rfl rfl rfl rfl ?_
    refine mx_getR 26 fs_RX3_15 rfl (tp_s T 24 rfl) (tp_r T 23 rfl) (mx_da t_X3_comparedKeys 40 rfl) rfl ?_
    refine mx_iload_n 2 (mx_da t_X3_comparedKeys 41 rfl) rfl rfl rfl ?_
    refine mx_iald (tp_s T 26 rfl) h.1 (mx_da t_X3_comparedKeys 42 rfl) rfl ?_
    have h := h.2
    refine mx_callS yJ6_compare_7cf53 m_J6_compare_7cf53 [.int (mx_I M1 26 v1.toNatClampNeg), .int (mx_I M1 26 v2.toNatClampNeg)] mm_J6_compare_7cf53 ml_RX3_132 st_J6_compare_7cf53 rfl (Nat.le_of_ble_eq_true rfl) (mx_da t_X3_comparedKeys 43 rfl) rfl (Nat.le_of_ble_eq_true rfl) rfl ?_
    refine mx_mono h ?_
    intro o M3 ho
    obtain ⟨e1, e2, ho⟩ := ho
    obtain ⟨x4, rfl, h⟩ := ho
    refine ⟨e1, ?_⟩
    have T := tp_of e1 e2 T
    clear e1 e2
    show mx_W m_X3_comparedKeys (d + 1) 68 [.ref 24, .int v1, .int v2, .int x2] [.int x4] M3 Q
    exact mx_iret rfl (mx_da t_X3_comparedKeys 44 rfl) h
  · have h := h.2 g9
    refine mx_iload_n 3 (mx_da t_X3_comparedKeys 11 rfl) rfl rfl rfl ?_
    refine mx_aload_n 0 (mx_da t_X3_comparedKeys 12 rfl) rfl rfl rfl rfl ?_
    refine mx_getR 26 fs_RX3_15 rfl (tp_s T 24 rfl) (tp_r T 23 rfl) (mx_da t_X3_comparedKeys 13 rfl) rfl ?_
    refine mx_iload_n 2 (mx_da t_X3_comparedKeys 14 rfl) rfl rfl rfl ?_
    refine mx_iald (tp_s T 26 rfl) h.1 (mx_da t_X3_comparedKeys 15 rfl) rfl ?_
    have h := h.2
    refine mx_icmp_ge 53 (mx_da t_X3_comparedKeys 16 rfl) rfl rfl (fun g9 => ?_) (fun g9 => ?_)
    · have h := h.1 g9
      refine mx_aload_n 0 (mx_da t_X3_comparedKeys 35 rfl) rfl rfl rfl rfl ?_
      refine mx_getR 26 fs_RX3_15 rfl (tp_s T 24 rfl) (tp_r T 23 rfl) (mx_da t_X3_comparedKeys 36 rfl) rfl ?_
      refine mx_iload_n 1 (mx_da t_X3_comparedKeys 37 rfl) rfl rfl rfl ?_
      refine mx_iald (tp_s T 26 rfl) h.1 (mx_da t_X3_comparedKeys 38 rfl) rfl ?_
      have h := h.2
      refine mx_aload_n 0 (mx_da t_X3_comparedKeys 39 rfl) rfl rfl rfl rfl ?_
      refine mx_getR 26 fs_RX3_15 rfl (tp_s T 24 rfl) (tp_r T 23 rfl) (mx_da t_X3_comparedKeys 40 rfl) rfl ?_
      refine mx_iload_n 2 (mx_da t_X3_comparedKeys 41 rfl) rfl rfl rfl ?_
      refine mx_iald (tp_s T 26 rfl) h.1 (mx_da t_X3_comparedKeys 42 rfl) rfl ?_
      have h := h.2
      refine mx_callS yJ6_compare_7cf53 m_J6_compare_7cf53 [.int (mx_I M1 26 v1.toNatClampNeg), .int (mx_I M1 26 v2.toNatClampNeg)] mm_J6_compare_7cf53 ml_RX3_132 st_J6_compare_7cf53 rfl (Nat.le_of_ble_eq_true rfl) (mx_da t_X3_comparedKeys 43 rfl) rfl (Nat.le_of_ble_eq_true rfl) rfl ?_
      refine mx_mono h ?_
      intro o M5 ho
      obtain ⟨e1, e2, ho⟩ := ho
      obtain ⟨x6, rfl, h⟩ := ho
      refine ⟨e1, ?_⟩
      have T := tp_of e1 e2 T
      clear e1 e2
      show mx_W m_X3_comparedKeys (d + 1) 68 [.ref 24, .int v1, .int v2, .int x2] [.int x6] M5 Q
      exact mx_iret rfl (mx_da t_X3_comparedKeys 44 rfl) h
    · have h := h.2 g9
      refine mx_aload_n 0 (mx_da t_X3_comparedKeys 17 rfl) rfl rfl rfl rfl ?_
      refine mx_getR 25 fs_RX3_11 rfl (tp_s T 24 rfl) (tp_r T 22 rfl) (mx_da t_X3_comparedKeys 18 rfl) rfl ?_
      refine mx_iload_n 1 (mx_da t_X3_comparedKeys 19 rfl) rfl rfl rfl ?_
      refine mx_bipush (v := 35) (mx_da t_X3_comparedKeys 20 rfl) rfl rfl ?_
      refine mx_imul (mx_da t_X3_comparedKeys 21 rfl) rfl ?_
      refine mx_iload_n 3 (mx_da t_X3_comparedKeys 22 rfl) rfl rfl rfl ?_
      refine mx_iadd (mx_da t_X3_comparedKeys 23 rfl) rfl ?_
      refine mx_iald (tp_s T 25 rfl) h.1 (mx_da t_X3_comparedKeys 24 rfl) rfl ?_
      have h := h.2
      refine mx_aload_n 0 (mx_da t_X3_comparedKeys 25 rfl) rfl rfl rfl rfl ?_
      refine mx_getR 25 fs_RX3_11 rfl (tp_s T 24 rfl) (tp_r T 22 rfl) (mx_da t_X3_comparedKeys 26 rfl) rfl ?_
      refine mx_iload_n 2 (mx_da t_X3_comparedKeys 27 rfl) rfl rfl rfl ?_
      refine mx_bipush (v := 35) (mx_da t_X3_comparedKeys 28 rfl) rfl rfl ?_
      refine mx_imul (mx_da t_X3_comparedKeys 29 rfl) rfl ?_
      refine mx_iload_n 3 (mx_da t_X3_comparedKeys 30 rfl) rfl rfl rfl ?_
      refine mx_iadd (mx_da t_X3_comparedKeys 31 rfl) rfl ?_
      refine mx_iald (tp_s T 25 rfl) h.1 (mx_da t_X3_comparedKeys 32 rfl) rfl ?_
      have h := h.2
      refine mx_callS yJ6_compare_7cf53 m_J6_compare_7cf53 [.int (mx_I M1 25 ((v1 * 35) + x2).toNatClampNeg), .int (mx_I M1 25 ((v2 * 35) + x2).toNatClampNeg)] mm_J6_compare_7cf53 ml_RX3_132 st_J6_compare_7cf53 rfl (Nat.le_of_ble_eq_true rfl) (mx_da t_X3_comparedKeys 33 rfl) rfl (Nat.le_of_ble_eq_true rfl) rfl ?_
      refine mx_mono h ?_
      intro o M7 ho
      obtain ⟨e1, e2, ho⟩ := ho
      obtain ⟨x8, rfl, h⟩ := ho
      refine ⟨e1, ?_⟩
      have T := tp_of e1 e2 T
      clear e1 e2
      show mx_W m_X3_comparedKeys (d + 1) 52 [.ref 24, .int v1, .int v2, .int x2] [.int x8] M7 Q
      exact mx_iret rfl (mx_da t_X3_comparedKeys 34 rfl) h
set_option maxHeartbeats 1000000 in
theorem x_X3_alikeSigns_0 {d : Nat} {M : mx_M} {Q : mx_O → mx_M → Prop} (T : mx_Tp M) (v1 : Int32) (v2 : Int32)
    (h : (vp_in v1 50 ∧ (vp_in v2 50 ∧ (mx_W m_J9_min_7cf53 d 0 [.int (mx_I M 26 v1.toNatClampNeg), .int (mx_I M 26 v2.toNatClampNeg)] [] M (fun o M1 => mx_sh M1 = mx_sh M ∧ mx_R M1 = mx_R M ∧ (∃ x2 : Int32, o = .inl (some (.int x2)) ∧ mx_W m_X3_alikeSigns (d + 1) 19 [.ref 24, .int v1, .int v2, .int x2, .int 0] [] M1 Q)))))) :
    mx_W m_X3_alikeSigns (d + 1) 0 [.ref 24, .int v1, .int v2, .retAddr 0, .retAddr 0] [] M Q := by
  refine mx_aload_n 0 (mx_da t_X3_alikeSigns 0 rfl) rfl rfl rfl rfl ?_
  refine mx_getR 26 fs_RX3_15 rfl (tp_s T 24 rfl) (tp_r T 23 rfl) (mx_da t_X3_alikeSigns 1 rfl) rfl ?_
  refine mx_iload_n 1 (mx_da t_X3_alikeSigns 2 rfl) rfl rfl rfl ?_
  refine mx_iald (tp_s T 26 rfl) h.1 (mx_da t_X3_alikeSigns 3 rfl) rfl ?_
  have h := h.2
  refine mx_aload_n 0 (mx_da t_X3_alikeSigns 4 rfl) rfl rfl rfl rfl ?_
  refine mx_getR 26 fs_RX3_15 rfl (tp_s T 24 rfl) (tp_r T 23 rfl) (mx_da t_X3_alikeSigns 5 rfl) rfl ?_
  refine mx_iload_n 2 (mx_da t_X3_alikeSigns 6 rfl) rfl rfl rfl ?_
  refine mx_iald (tp_s T 26 rfl) h.1 (mx_da t_X3_alikeSigns 7 rfl) rfl ?_
  have h := h.2
  refine mx_callS yJ9_min_7cf53 m_J9_min_7cf53 [.int (mx_I M 26 v1.toNatClampNeg), .int (mx_I M 26 v2.toNatClampNeg)] mm_J9_min_7cf53 ml_RX3_146 st_J9_min_7cf53 rfl (Nat.le_of_ble_eq_true rfl) (mx_da t_X3_alikeSigns 8 rfl) rfl (Nat.le_of_ble_eq_true rfl) rfl ?_
  refine mx_mono h ?_
  intro o M1 ho
  obtain ⟨e1, e2, ho⟩ := ho
  obtain ⟨x2, rfl, h⟩ := ho
  refine ⟨e1, ?_⟩
  have T := tp_of e1 e2 T
  clear e1 e2
  show mx_W m_X3_alikeSigns (d + 1) 15 [.ref 24, .int v1, .int v2, .retAddr 0, .retAddr 0] [.int x2] M1 Q
  refine mx_istore_n 3 [.ref 24, .int v1, .int v2, .int x2, .retAddr 0] (mx_da t_X3_alikeSigns 9 rfl) rfl rfl (by decide) rfl ?_
  refine mx_iconst (v := 0) (mx_da t_X3_alikeSigns 10 rfl) rfl rfl ?_
  refine mx_istore 4 [.ref 24, .int v1, .int v2, .int x2, .int 0] (mx_da t_X3_alikeSigns 11 rfl) rfl (by decide) rfl ?_
  exact h
set_option maxHeartbeats 1000000 in
theorem x_X3_alikeSigns_19 {d : Nat} {M : mx_M} {Q : mx_O → mx_M → Prop} (T : mx_Tp M) (v1 : Int32) (v2 : Int32) (v3 : Int32) (v4 : Int32)
    (h : ((v3 ≤ v4 → Q (.inl (some (.int v3))) M) ∧ (¬ v3 ≤ v4 → (vp_in ((v1 * 35) + v4) 1750 ∧ (vp_in ((v2 * 35) + v4) 1750 ∧ (((mx_I M 25 ((v1 * 35) + v4).toNatClampNeg) = (mx_I M 25 ((v2 * 35) + v4).toNatClampNeg) → mx_W m_X3_alikeSigns (d + 1) 19 [.ref 24, .int v1, .int v2, .int v3, .int (v4 + 1)] [] M Q) ∧ (¬ (mx_I M 25 ((v1 * 35) + v4).toNatClampNeg) = (mx_I M 25 ((v2 * 35) + v4).toNatClampNeg) → Q (.inl (some (.int v4))) M))))))) :
    mx_W m_X3_alikeSigns (d + 1) 19 [.ref 24, .int v1, .int v2, .int v3, .int v4] [] M Q := by
  refine mx_iload 4 (mx_da t_X3_alikeSigns 12 rfl) rfl rfl ?_
  refine mx_iload_n 3 (mx_da t_X3_alikeSigns 13 rfl) rfl rfl rfl ?_
  refine mx_icmp_ge 61 (mx_da t_X3_alikeSigns 14 rfl) rfl rfl (fun g9 => ?_) (fun g9 => ?_)
  · have h := h.1 g9
    refine mx_iload_n 3 (mx_da t_X3_alikeSigns 36 rfl) rfl rfl rfl ?_
    exact mx_iret rfl (mx_da t_X3_alikeSigns 37 rfl) h
  · have h := h.2 g9
    refine mx_aload_n 0 (mx_da t_X3_alikeSigns 15 rfl) rfl rfl rfl rfl ?_
    refine mx_getR 25 fs_RX3_11 rfl (tp_s T 24 rfl) (tp_r T 22 rfl) (mx_da t_X3_alikeSigns 16 rfl) rfl ?_
    refine mx_iload_n 1 (mx_da t_X3_alikeSigns 17 rfl) rfl rfl rfl ?_
    refine mx_bipush (v := 35) (mx_da t_X3_alikeSigns 18 rfl) rfl rfl ?_
    refine mx_imul (mx_da t_X3_alikeSigns 19 rfl) rfl ?_
    refine mx_iload 4 (mx_da t_X3_alikeSigns 20 rfl) rfl rfl ?_
    refine mx_iadd (mx_da t_X3_alikeSigns 21 rfl) rfl ?_
    refine mx_iald (tp_s T 25 rfl) h.1 (mx_da t_X3_alikeSigns 22 rfl) rfl ?_
    have h := h.2
    refine mx_aload_n 0 (mx_da t_X3_alikeSigns 23 rfl) rfl rfl rfl rfl ?_
    refine mx_getR 25 fs_RX3_11 rfl (tp_s T 24 rfl) (tp_r T 22 rfl) (mx_da t_X3_alikeSigns 24 rfl) rfl ?_
    refine mx_iload_n 2 (mx_da t_X3_alikeSigns 25 rfl) rfl rfl rfl ?_
    refine mx_bipush (v := 35) (mx_da t_X3_alikeSigns 26 rfl) rfl rfl ?_
    refine mx_imul (mx_da t_X3_alikeSigns 27 rfl) rfl ?_
    refine mx_iload 4 (mx_da t_X3_alikeSigns 28 rfl) rfl rfl ?_
    refine mx_iadd (mx_da t_X3_alikeSigns 29 rfl) rfl ?_
    refine mx_iald (tp_s T 25 rfl) h.1 (mx_da t_X3_alikeSigns 30 rfl) rfl ?_
    have h := h.2
    refine mx_icmp_eq 55 (mx_da t_X3_alikeSigns 31 rfl) rfl rfl (fun g9 => ?_) (fun g9 => ?_)
    · have h := h.1 g9
      refine mx_iinc 4 (v := v4 + 1) [.ref 24, .int v1, .int v2, .int v3, .int (v4 + 1)] (mx_da t_X3_alikeSigns 34 rfl) rfl (by decide) rfl rfl rfl ?_
      refine mx_goto (n := 19) (mx_da t_X3_alikeSigns 35 rfl) rfl ?_
      exact h
    · have h := h.2 g9
      refine mx_iload 4 (mx_da t_X3_alikeSigns 32 rfl) rfl rfl ?_
      exact mx_iret rfl (mx_da t_X3_alikeSigns 33 rfl) h
set_option maxHeartbeats 1000000 in
theorem x_X3_keyLength_0 {d : Nat} {M : mx_M} {Q : mx_O → mx_M → Prop} (T : mx_Tp M) (v1 : Int32) (v2 : Int32)
    (h : (vp_in ((v1 * 10) + v2) 50 ∧ Q (.inl (some (.int (mx_I M 26 ((v1 * 10) + v2).toNatClampNeg)))) M)) :
    mx_W m_X3_keyLength d 0 [.ref 24, .int v1, .int v2] [] M Q := by
  refine mx_aload_n 0 (mx_da t_X3_keyLength 0 rfl) rfl rfl rfl rfl ?_
  refine mx_getR 26 fs_RX3_15 rfl (tp_s T 24 rfl) (tp_r T 23 rfl) (mx_da t_X3_keyLength 1 rfl) rfl ?_
  refine mx_iload_n 1 (mx_da t_X3_keyLength 2 rfl) rfl rfl rfl ?_
  refine mx_bipush (v := 10) (mx_da t_X3_keyLength 3 rfl) rfl rfl ?_
  refine mx_imul (mx_da t_X3_keyLength 4 rfl) rfl ?_
  refine mx_iload_n 2 (mx_da t_X3_keyLength 5 rfl) rfl rfl rfl ?_
  refine mx_iadd (mx_da t_X3_keyLength 6 rfl) rfl ?_
  refine mx_iald (tp_s T 26 rfl) h.1 (mx_da t_X3_keyLength 7 rfl) rfl ?_
  have h := h.2
  exact mx_iret rfl (mx_da t_X3_keyLength 8 rfl) h
set_option maxHeartbeats 1000000 in
theorem x_X3_keySign_0 {d : Nat} {M : mx_M} {Q : mx_O → mx_M → Prop} (T : mx_Tp M) (v1 : Int32) (v2 : Int32) (v3 : Int32)
    (h : (vp_in ((((v1 * 10) + v2) * 35) + v3) 1750 ∧ Q (.inl (some (.int (mx_I M 25 ((((v1 * 10) + v2) * 35) + v3).toNatClampNeg)))) M)) :
    mx_W m_X3_keySign d 0 [.ref 24, .int v1, .int v2, .int v3] [] M Q := by
  refine mx_aload_n 0 (mx_da t_X3_keySign 0 rfl) rfl rfl rfl rfl ?_
  refine mx_getR 25 fs_RX3_11 rfl (tp_s T 24 rfl) (tp_r T 22 rfl) (mx_da t_X3_keySign 1 rfl) rfl ?_
  refine mx_iload_n 1 (mx_da t_X3_keySign 2 rfl) rfl rfl rfl ?_
  refine mx_bipush (v := 10) (mx_da t_X3_keySign 3 rfl) rfl rfl ?_
  refine mx_imul (mx_da t_X3_keySign 4 rfl) rfl ?_
  refine mx_iload_n 2 (mx_da t_X3_keySign 5 rfl) rfl rfl rfl ?_
  refine mx_iadd (mx_da t_X3_keySign 6 rfl) rfl ?_
  refine mx_bipush (v := 35) (mx_da t_X3_keySign 7 rfl) rfl rfl ?_
  refine mx_imul (mx_da t_X3_keySign 8 rfl) rfl ?_
  refine mx_iload_n 3 (mx_da t_X3_keySign 9 rfl) rfl rfl rfl ?_
  refine mx_iadd (mx_da t_X3_keySign 10 rfl) rfl ?_
  refine mx_iald (tp_s T 25 rfl) h.1 (mx_da t_X3_keySign 11 rfl) rfl ?_
  have h := h.2
  exact mx_iret rfl (mx_da t_X3_keySign 12 rfl) h
set_option maxHeartbeats 1000000 in
theorem x_X3_rankOf_0 {d : Nat} {M : mx_M} {Q : mx_O → mx_M → Prop} (T : mx_Tp M) (v1 : Int32) (v2 : Int32)
    (h : (vp_in ((v1 * 10) + v2) 50 ∧ Q (.inl (some (.int (mx_I M 27 ((v1 * 10) + v2).toNatClampNeg)))) M)) :
    mx_W m_X3_rankOf d 0 [.ref 24, .int v1, .int v2] [] M Q := by
  refine mx_aload_n 0 (mx_da t_X3_rankOf 0 rfl) rfl rfl rfl rfl ?_
  refine mx_getR 27 fs_RX3_18 rfl (tp_s T 24 rfl) (tp_r T 24 rfl) (mx_da t_X3_rankOf 1 rfl) rfl ?_
  refine mx_iload_n 1 (mx_da t_X3_rankOf 2 rfl) rfl rfl rfl ?_
  refine mx_bipush (v := 10) (mx_da t_X3_rankOf 3 rfl) rfl rfl ?_
  refine mx_imul (mx_da t_X3_rankOf 4 rfl) rfl ?_
  refine mx_iload_n 2 (mx_da t_X3_rankOf 5 rfl) rfl rfl rfl ?_
  refine mx_iadd (mx_da t_X3_rankOf 6 rfl) rfl ?_
  refine mx_iald (tp_s T 27 rfl) h.1 (mx_da t_X3_rankOf 7 rfl) rfl ?_
  have h := h.2
  exact mx_iret rfl (mx_da t_X3_rankOf 8 rfl) h
set_option maxHeartbeats 1000000 in
theorem x_X3_cardOfRank_0 {d : Nat} {M : mx_M} {Q : mx_O → mx_M → Prop} (T : mx_Tp M) (v1 : Int32) (v2 : Int32)
    (h : (vp_in ((v1 * 10) + v2) 50 ∧ Q (.inl (some (.int (mx_I M 28 ((v1 * 10) + v2).toNatClampNeg)))) M)) :
    mx_W m_X3_cardOfRank d 0 [.ref 24, .int v1, .int v2] [] M Q := by
  refine mx_aload_n 0 (mx_da t_X3_cardOfRank 0 rfl) rfl rfl rfl rfl ?_
  refine mx_getR 28 fs_RX3_21 rfl (tp_s T 24 rfl) (tp_r T 25 rfl) (mx_da t_X3_cardOfRank 1 rfl) rfl ?_
  refine mx_iload_n 1 (mx_da t_X3_cardOfRank 2 rfl) rfl rfl rfl ?_
  refine mx_bipush (v := 10) (mx_da t_X3_cardOfRank 3 rfl) rfl rfl ?_
  refine mx_imul (mx_da t_X3_cardOfRank 4 rfl) rfl ?_
  refine mx_iload_n 2 (mx_da t_X3_cardOfRank 5 rfl) rfl rfl rfl ?_
  refine mx_iadd (mx_da t_X3_cardOfRank 6 rfl) rfl ?_
  refine mx_iald (tp_s T 28 rfl) h.1 (mx_da t_X3_cardOfRank 7 rfl) rfl ?_
  have h := h.2
  exact mx_iret rfl (mx_da t_X3_cardOfRank 8 rfl) h
set_option maxHeartbeats 1000000 in
theorem x_X3_isAhead_0 {d : Nat} {M : mx_M} {Q : mx_O → mx_M → Prop} (T : mx_Tp M) (v1 : Int32) (v2 : Int32) (v3 : Int32)
    (h : (mx_W m_X3_rankOf d 0 [.ref 24, .int v1, .int v2] [] M (fun o M1 => mx_sh M1 = mx_sh M ∧ mx_R M1 = mx_R M ∧ (∃ x2 : Int32, o = .inl (some (.int x2)) ∧ (mx_W m_X3_rankOf d 0 [.ref 24, .int v1, .int v3] [] M1 (fun o M3 => mx_sh M3 = mx_sh M1 ∧ mx_R M3 = mx_R M1 ∧ (∃ x4 : Int32, o = .inl (some (.int x4)) ∧ ((x4 ≤ x2 → Q (.inl (some (.int (mx_b false)))) M3) ∧ (¬ x4 ≤ x2 → Q (.inl (some (.int (mx_b true)))) M3))))))))) :
    mx_W m_X3_isAhead (d + 1) 0 [.ref 24, .int v1, .int v2, .int v3] [] M Q := by
  refine mx_aload_n 0 (mx_da t_X3_isAhead 0 rfl) rfl rfl rfl rfl ?_
  refine mx_iload_n 1 (mx_da t_X3_isAhead 1 rfl) rfl rfl rfl ?_
  refine mx_iload_n 2 (mx_da t_X3_isAhead 2 rfl) rfl rfl rfl ?_
  refine mx_callV yX3_rankOf m_X3_rankOf [.int v1, .int v2] mm_X3_rankOf ml_RX3_151 im_X3_rankOf se_X3_rankOf (tp_s T 24 rfl) rfl rfl (Nat.le_of_ble_eq_true rfl) (mx_da t_X3_isAhead 3 rfl) rfl (Nat.le_of_ble_eq_true rfl) rfl ?_
  refine mx_mono h ?_
  intro o M1 ho
  obtain ⟨e1, e2, ho⟩ := ho
  obtain ⟨x2, rfl, h⟩ := ho
  refine ⟨e1, ?_⟩
  have T := tp_of e1 e2 T
  clear e1 e2
  show mx_W m_X3_isAhead (d + 1) 6 [.ref 24, .int v1, .int v2, .int v3] [.int x2] M1 Q
  refine mx_aload_n 0 (mx_da t_X3_isAhead 4 rfl) rfl rfl rfl rfl ?_
  refine mx_iload_n 1 (mx_da t_X3_isAhead 5 rfl) rfl rfl rfl ?_
  refine mx_iload_n 3 (mx_da t_X3_isAhead 6 rfl) rfl rfl rfl ?_
  refine mx_callV yX3_rankOf m_X3_rankOf [.int v1, .int v3] mm_X3_rankOf ml_RX3_151 im_X3_rankOf se_X3_rankOf (tp_s T 24 rfl) rfl rfl (Nat.le_of_ble_eq_true rfl) (mx_da t_X3_isAhead 7 rfl) rfl (Nat.le_of_ble_eq_true rfl) rfl ?_
  refine mx_mono h ?_
  intro o M3 ho
  obtain ⟨e1, e2, ho⟩ := ho
  obtain ⟨x4, rfl, h⟩ := ho
  refine ⟨e1, ?_⟩
  have T := tp_of e1 e2 T
  clear e1 e2
  show mx_W m_X3_isAhead (d + 1) 12 [.ref 24, .int v1, .int v2, .int v3] [.int x4, .int x2] M3 Q
  refine mx_icmp_ge 19 (mx_da t_X3_isAhead 8 rfl) rfl rfl (fun g9 => ?_) (fun g9 => ?_)
  · have h := h.1 g9
    refine mx_iconst (v := 0) (mx_da t_X3_isAhead 11 rfl) rfl rfl ?_
    exact mx_zret rfl rfl (mx_da t_X3_isAhead 12 rfl) h
  · have h := h.2 g9
    refine mx_iconst (v := 1) (mx_da t_X3_isAhead 9 rfl) rfl rfl ?_
    refine mx_goto (n := 20) (mx_da t_X3_isAhead 10 rfl) rfl ?_
    exact mx_zret rfl rfl (mx_da t_X3_isAhead 12 rfl) h
set_option maxHeartbeats 1000000 in
theorem x_X3_hasSameKey_0 {d : Nat} {M : mx_M} {Q : mx_O → mx_M → Prop} (T : mx_Tp M) (v1 : Int32) (v2 : Int32) (v3 : Int32)
    (h : (mx_W m_X3_comparedKeys d 0 [.ref 24, .int ((v1 * 10) + v3), .int ((v2 * 10) + v3), .retAddr 0] [] M (fun o M1 => mx_sh M1 = mx_sh M ∧ mx_R M1 = mx_R M ∧ (∃ x2 : Int32, o = .inl (some (.int x2)) ∧ ((¬ x2 = 0 → Q (.inl (some (.int (mx_b false)))) M1) ∧ (x2 = 0 → Q (.inl (some (.int (mx_b true)))) M1)))))) :
    mx_W m_X3_hasSameKey (d + 1) 0 [.ref 24, .int v1, .int v2, .int v3] [] M Q := by
  refine mx_aload_n 0 (mx_da t_X3_hasSameKey 0 rfl) rfl rfl rfl rfl ?_
  refine mx_iload_n 1 (mx_da t_X3_hasSameKey 1 rfl) rfl rfl rfl ?_
  refine mx_bipush (v := 10) (mx_da t_X3_hasSameKey 2 rfl) rfl rfl ?_
  refine mx_imul (mx_da t_X3_hasSameKey 3 rfl) rfl ?_
  refine mx_iload_n 3 (mx_da t_X3_hasSameKey 4 rfl) rfl rfl rfl ?_
  refine mx_iadd (mx_da t_X3_hasSameKey 5 rfl) rfl ?_
  refine mx_iload_n 2 (mx_da t_X3_hasSameKey 6 rfl) rfl rfl rfl ?_
  refine mx_bipush (v := 10) (mx_da t_X3_hasSameKey 7 rfl) rfl rfl ?_
  refine mx_imul (mx_da t_X3_hasSameKey 8 rfl) rfl ?_
  refine mx_iload_n 3 (mx_da t_X3_hasSameKey 9 rfl) rfl rfl rfl ?_
  refine mx_iadd (mx_da t_X3_hasSameKey 10 rfl) rfl ?_
  refine mx_callV yX3_comparedKeys m_X3_comparedKeys [.int ((v1 * 10) + v3), .int ((v2 * 10) + v3)] mm_X3_comparedKeys ml_RX3_124 im_X3_comparedKeys se_X3_comparedKeys (tp_s T 24 rfl) rfl rfl (Nat.le_of_ble_eq_true rfl) (mx_da t_X3_hasSameKey 11 rfl) rfl (Nat.le_of_ble_eq_true rfl) rfl ?_
  refine mx_mono h ?_
  intro o M1 ho
  obtain ⟨e1, e2, ho⟩ := ho
  obtain ⟨x2, rfl, h⟩ := ho
  refine ⟨e1, ?_⟩
  have T := tp_of e1 e2 T
  clear e1 e2
  show mx_W m_X3_hasSameKey (d + 1) 16 [.ref 24, .int v1, .int v2, .int v3] [.int x2] M1 Q
  refine mx_if_ne 23 (mx_da t_X3_hasSameKey 12 rfl) rfl rfl (fun g9 => ?_) (fun g9 => ?_)
  · have h := h.1 g9
    refine mx_iconst (v := 0) (mx_da t_X3_hasSameKey 15 rfl) rfl rfl ?_
    exact mx_zret rfl rfl (mx_da t_X3_hasSameKey 16 rfl) h
  · have h := h.2 g9
    refine mx_iconst (v := 1) (mx_da t_X3_hasSameKey 13 rfl) rfl rfl ?_
    refine mx_goto (n := 24) (mx_da t_X3_hasSameKey 14 rfl) rfl ?_
    exact mx_zret rfl rfl (mx_da t_X3_hasSameKey 16 rfl) h
set_option maxHeartbeats 1000000 in
theorem x_X3_beginsAlike_0 {d : Nat} {M : mx_M} {Q : mx_O → mx_M → Prop} (T : mx_Tp M) (v1 : Int32) (v2 : Int32) (v3 : Int32) (v4 : Int32)
    (h : (mx_W m_X3_alikeSigns d 0 [.ref 24, .int ((v1 * 10) + v2), .int ((v1 * 10) + v3), .retAddr 0, .retAddr 0] [] M (fun o M1 => mx_sh M1 = mx_sh M ∧ mx_R M1 = mx_R M ∧ (∃ x2 : Int32, o = .inl (some (.int x2)) ∧ (vp_in ((v1 * 10) + v2) 50 ∧ (mx_W m_J9_min_7cf53 d 0 [.int v4, .int (mx_I M1 26 ((v1 * 10) + v2).toNatClampNeg)] [] M1 (fun o M3 => mx_sh M3 = mx_sh M1 ∧ mx_R M3 = mx_R M1 ∧ (∃ x4 : Int32, o = .inl (some (.int x4)) ∧ ((x2 < x4 → Q (.inl (some (.int (mx_b false)))) M3) ∧ (¬ x2 < x4 → Q (.inl (some (.int (mx_b true)))) M3)))))))))) :
    mx_W m_X3_beginsAlike (d + 1) 0 [.ref 24, .int v1, .int v2, .int v3, .int v4, .retAddr 0] [] M Q := by
  refine mx_iload_n 1 (mx_da t_X3_beginsAlike 0 rfl) rfl rfl rfl ?_
  refine mx_bipush (v := 10) (mx_da t_X3_beginsAlike 1 rfl) rfl rfl ?_
  refine mx_imul (mx_da t_X3_beginsAlike 2 rfl) rfl ?_
  refine mx_iload_n 2 (mx_da t_X3_beginsAlike 3 rfl) rfl rfl rfl ?_
  refine mx_iadd (mx_da t_X3_beginsAlike 4 rfl) rfl ?_
  refine mx_istore 5 [.ref 24, .int v1, .int v2, .int v3, .int v4, .int ((v1 * 10) + v2)] (mx_da t_X3_beginsAlike 5 rfl) rfl (by decide) rfl ?_
  refine mx_aload_n 0 (mx_da t_X3_beginsAlike 6 rfl) rfl rfl rfl rfl ?_
  refine mx_iload 5 (mx_da t_X3_beginsAlike 7 rfl) rfl rfl ?_
  refine mx_iload_n 1 (mx_da t_X3_beginsAlike 8 rfl) rfl rfl rfl ?_
  refine mx_bipush (v := 10) (mx_da t_X3_beginsAlike 9 rfl) rfl rfl ?_
  refine mx_imul (mx_da t_X3_beginsAlike 10 rfl) rfl ?_
  refine mx_iload_n 3 (mx_da t_X3_beginsAlike 11 rfl) rfl rfl rfl ?_
  refine mx_iadd (mx_da t_X3_beginsAlike 12 rfl) rfl ?_
  refine mx_callV yX3_alikeSigns m_X3_alikeSigns [.int ((v1 * 10) + v2), .int ((v1 * 10) + v3)] mm_X3_alikeSigns ml_RX3_143 im_X3_alikeSigns se_X3_alikeSigns (tp_s T 24 rfl) rfl rfl (Nat.le_of_ble_eq_true rfl) (mx_da t_X3_beginsAlike 13 rfl) rfl (Nat.le_of_ble_eq_true rfl) rfl ?_
  refine mx_mono h ?_
  intro o M1 ho
  obtain ⟨e1, e2, ho⟩ := ho
  obtain ⟨x2, rfl, h⟩ := ho
  refine ⟨e1, ?_⟩
  have T := tp_of e1 e2 T
  clear e1 e2
  show mx_W m_X3_beginsAlike (d + 1) 20 [.ref 24, .int v1, .int v2, .int v3, .int v4, .int ((v1 * 10) + v2)] [.int x2] M1 Q
  refine mx_iload 4 (mx_da t_X3_beginsAlike 14 rfl) rfl rfl ?_
  refine mx_aload_n 0 (mx_da t_X3_beginsAlike 15 rfl) rfl rfl rfl rfl ?_
  refine mx_getR 26 fs_RX3_15 rfl (tp_s T 24 rfl) (tp_r T 23 rfl) (mx_da t_X3_beginsAlike 16 rfl) rfl ?_
  refine mx_iload 5 (mx_da t_X3_beginsAlike 17 rfl) rfl rfl ?_
  refine mx_iald (tp_s T 26 rfl) h.1 (mx_da t_X3_beginsAlike 18 rfl) rfl ?_
  have h := h.2
  refine mx_callS yJ9_min_7cf53 m_J9_min_7cf53 [.int v4, .int (mx_I M1 26 ((v1 * 10) + v2).toNatClampNeg)] mm_J9_min_7cf53 ml_RX3_146 st_J9_min_7cf53 rfl (Nat.le_of_ble_eq_true rfl) (mx_da t_X3_beginsAlike 19 rfl) rfl (Nat.le_of_ble_eq_true rfl) rfl ?_
  refine mx_mono h ?_
  intro o M3 ho
  obtain ⟨e1, e2, ho⟩ := ho
  obtain ⟨x4, rfl, h⟩ := ho
  refine ⟨e1, ?_⟩
  have T := tp_of e1 e2 T
  clear e1 e2
  show mx_W m_X3_beginsAlike (d + 1) 32 [.ref 24, .int v1, .int v2, .int v3, .int v4, .int ((v1 * 10) + v2)] [.int x4, .int x2] M3 Q
  refine mx_icmp_lt 39 (mx_da t_X3_beginsAlike 20 rfl) rfl rfl (fun g9 => ?_) (fun g9 => ?_)
  · have h := h.1 g9
    refine mx_iconst (v := 0) (mx_da t_X3_beginsAlike 23 rfl) rfl rfl ?_
    exact mx_zret rfl rfl (mx_da t_X3_beginsAlike 24 rfl) h
  · have h := h.2 g9
    refine mx_iconst (v := 1) (mx_da t_X3_beginsAlike 21 rfl) rfl rfl ?_
    refine mx_goto (n := 40) (mx_da t_X3_beginsAlike 22 rfl) rfl ?_
    exact mx_zret rfl rfl (mx_da t_X3_beginsAlike 24 rfl) h
set_option maxHeartbeats 1000000 in
theorem x_X3_guideLength_0 {d : Nat} {M : mx_M} {Q : mx_O → mx_M → Prop} (T : mx_Tp M) (v1 : Int32) (v2 : Int32) (v3 : Int32)
    (h : (vp_in ((v1 * 10) + v2) 50 ∧ (mx_W m_X3_alikeSigns d 0 [.ref 24, .int ((v1 * 10) + v2), .int ((v1 * 10) + v3), .retAddr 0, .retAddr 0] [] M (fun o M1 => mx_sh M1 = mx_sh M ∧ mx_R M1 = mx_R M ∧ (∃ x2 : Int32, o = .inl (some (.int x2)) ∧ (mx_W m_J9_min_7cf53 d 0 [.int (mx_I M 26 ((v1 * 10) + v2).toNatClampNeg), .int (x2 + 1)] [] M1 (fun o M3 => mx_sh M3 = mx_sh M1 ∧ mx_R M3 = mx_R M1 ∧ (∃ x4 : Int32, o = .inl (some (.int x4)) ∧ Q (.inl (some (.int x4))) M3)))))))) :
    mx_W m_X3_guideLength (d + 1) 0 [.ref 24, .int v1, .int v2, .int v3, .retAddr 0] [] M Q := by
  refine mx_iload_n 1 (mx_da t_X3_guideLength 0 rfl) rfl rfl rfl ?_
  refine mx_bipush (v := 10) (mx_da t_X3_guideLength 1 rfl) rfl rfl ?_
  refine mx_imul (mx_da t_X3_guideLength 2 rfl) rfl ?_
  refine mx_iload_n 2 (mx_da t_X3_guideLength 3 rfl) rfl rfl rfl ?_
  refine mx_iadd (mx_da t_X3_guideLength 4 rfl) rfl ?_
  refine mx_istore 4 [.ref 24, .int v1, .int v2, .int v3, .int ((v1 * 10) + v2)] (mx_da t_X3_guideLength 5 rfl) rfl (by decide) rfl ?_
  refine mx_aload_n 0 (mx_da t_X3_guideLength 6 rfl) rfl rfl rfl rfl ?_
  refine mx_getR 26 fs_RX3_15 rfl (tp_s T 24 rfl) (tp_r T 23 rfl) (mx_da t_X3_guideLength 7 rfl) rfl ?_
  refine mx_iload 4 (mx_da t_X3_guideLength 8 rfl) rfl rfl ?_
  refine mx_iald (tp_s T 26 rfl) h.1 (mx_da t_X3_guideLength 9 rfl) rfl ?_
  have h := h.2
  refine mx_aload_n 0 (mx_da t_X3_guideLength 10 rfl) rfl rfl rfl rfl ?_
  refine mx_iload 4 (mx_da t_X3_guideLength 11 rfl) rfl rfl ?_
  refine mx_iload_n 1 (mx_da t_X3_guideLength 12 rfl) rfl rfl rfl ?_
  refine mx_bipush (v := 10) (mx_da t_X3_guideLength 13 rfl) rfl rfl ?_
  refine mx_imul (mx_da t_X3_guideLength 14 rfl) rfl ?_
  refine mx_iload_n 3 (mx_da t_X3_guideLength 15 rfl) rfl rfl rfl ?_
  refine mx_iadd (mx_da t_X3_guideLength 16 rfl) rfl ?_
  refine mx_callV yX3_alikeSigns m_X3_alikeSigns [.int ((v1 * 10) + v2), .int ((v1 * 10) + v3)] mm_X3_alikeSigns ml_RX3_143 im_X3_alikeSigns se_X3_alikeSigns (tp_s T 24 rfl) rfl rfl (Nat.le_of_ble_eq_true rfl) (mx_da t_X3_guideLength 17 rfl) rfl (Nat.le_of_ble_eq_true rfl) rfl ?_
  refine mx_mono h ?_
  intro o M1 ho
  obtain ⟨e1, e2, ho⟩ := ho
  obtain ⟨x2, rfl, h⟩ := ho
  refine ⟨e1, ?_⟩
  have T := tp_of e1 e2 T
  clear e1 e2
  show mx_W m_X3_guideLength (d + 1) 27 [.ref 24, .int v1, .int v2, .int v3, .int ((v1 * 10) + v2)] [.int x2, .int (mx_I M 26 ((v1 * 10) + v2).toNatClampNeg)] M1 Q
  refine mx_iconst (v := 1) (mx_da t_X3_guideLength 18 rfl) rfl rfl ?_
  refine mx_iadd (mx_da t_X3_guideLength 19 rfl) rfl ?_
  refine mx_callS yJ9_min_7cf53 m_J9_min_7cf53 [.int (mx_I M 26 ((v1 * 10) + v2).toNatClampNeg), .int (x2 + 1)] mm_J9_min_7cf53 ml_RX3_146 st_J9_min_7cf53 rfl (Nat.le_of_ble_eq_true rfl) (mx_da t_X3_guideLength 20 rfl) rfl (Nat.le_of_ble_eq_true rfl) rfl ?_
  refine mx_mono h ?_
  intro o M3 ho
  obtain ⟨e1, e2, ho⟩ := ho
  obtain ⟨x4, rfl, h⟩ := ho
  refine ⟨e1, ?_⟩
  have T := tp_of e1 e2 T
  clear e1 e2
  show mx_W m_X3_guideLength (d + 1) 32 [.ref 24, .int v1, .int v2, .int v3, .int ((v1 * 10) + v2)] [.int x4] M3 Q
  exact mx_iret rfl (mx_da t_X3_guideLength 21 rfl) h
set_option maxHeartbeats 1000000 in
theorem x_X5_copy_0 {d : Nat} {M : mx_M} {Q : mx_O → mx_M → Prop} (T : mx_Tp M) 
    (h : (∀ M1, M1 = mx_setI M 33 1 (mx_I M 31 1) → (∀ M2, M2 = mx_cpI M1 32 34 0 0 10 → Q (.inl none) M2))) :
    mx_W m_X5_copy (d + 1) 0 [.ref 33, .ref 31] [] M Q := by
  refine mx_aload_n 0 (mx_da t_X5_copy 0 rfl) rfl rfl rfl rfl ?_
  refine mx_aload_n 1 (mx_da t_X5_copy 1 rfl) rfl rfl rfl rfl ?_
  refine mx_getI fs_RX5_15 rfl (tp_s T 31 rfl) (mx_da t_X5_copy 2 rfl) rfl ?_
  refine mx_putI fs_RX5_15 rfl (tp_s T 33 rfl) rfl rfl rfl (mx_da t_X5_copy 3 rfl) rfl ?_
  refine mx_gen (mx_setI M 33 1 (mx_I M 31 1)) (fun M1 e9 => ?_)
  have h := h _ e9
  have T : mx_Tp M1 := tp_e e9 T
  refine mx_aload_n 1 (mx_da t_X5_copy 4 rfl) rfl rfl rfl rfl ?_
  refine mx_getR 32 fs_RX5_9 rfl (tp_s T 31 rfl) (tp_r T 29 rfl) (mx_da t_X5_copy 5 rfl) rfl ?_
  refine mx_iconst (v := 0) (mx_da t_X5_copy 6 rfl) rfl rfl ?_
  refine mx_aload_n 0 (mx_da t_X5_copy 7 rfl) rfl rfl rfl rfl ?_
  refine mx_getR 34 fs_RX5_9 rfl (tp_s T 33 rfl) (tp_r T 31 rfl) (mx_da t_X5_copy 8 rfl) rfl ?_
  refine mx_iconst (v := 0) (mx_da t_X5_copy 9 rfl) rfl rfl ?_
  refine mx_bipush (v := 10) (mx_da t_X5_copy 10 rfl) rfl rfl ?_
  refine mx_copyI ac_RX5_19 (tp_s T 32 rfl) (tp_s T 34 rfl) (by decide) (by decide) (by decide) (by decide) (by decide) (mx_da t_X5_copy 11 rfl) rfl (by decide) ?_
  refine mx_gen (mx_cpI M1 32 34 0 0 10) (fun M2 e9 => ?_)
  have h := h _ e9
  have T : mx_Tp M2 := tp_e e9 T
  exact mx_vret rfl (mx_da t_X5_copy 12 rfl) h
set_option maxHeartbeats 1000000 in
theorem x_X5_packed_0 {d : Nat} {M : mx_M} {Q : mx_O → mx_M → Prop} (T : mx_Tp M) (a : Nat) (ha : mx_Row a)
    (h : mx_W m_X5_packed d 9 [.ref a, .long 0, .retAddr 0, .int ((mx_I M a 1) - 1)] [] M Q) :
    mx_W m_X5_packed d 0 [.ref a, .retAddr 0, .retAddr 0, .retAddr 0] [] M Q := by
  refine mx_lconst (v := 0) (mx_da t_X5_packed 0 rfl) rfl rfl ?_
  refine mx_lstore_n 1 [.ref a, .long 0, .retAddr 0, .retAddr 0] (mx_da t_X5_packed 1 rfl) rfl rfl (by decide) rfl ?_
  refine mx_aload_n 0 (mx_da t_X5_packed 2 rfl) rfl rfl rfl rfl ?_
  refine mx_getI fs_RX5_15 rfl (row_s T ha) (mx_da t_X5_packed 3 rfl) rfl ?_
  refine mx_iconst (v := 1) (mx_da t_X5_packed 4 rfl) rfl rfl ?_
  refine mx_isub (mx_da t_X5_packed 5 rfl) rfl ?_
  refine mx_istore_n 3 [.ref a, .long 0, .retAddr 0, .int ((mx_I M a 1) - 1)] (mx_da t_X5_packed 6 rfl) rfl rfl (by decide) rfl ?_
  exact h
set_option maxHeartbeats 1000000 in
theorem x_X5_packed_9 {d : Nat} {M : mx_M} {Q : mx_O → mx_M → Prop} (T : mx_Tp M) (a : Nat) (ha : mx_Row a) (v1 : Int64) (v3 : Int32)
    (h : ((v3 < 0 → Q (.inl (some (.long ((v1 <<< ((4 : Int32).toInt64 &&& 63)) ||| ((mx_I M a 1).toInt64))))) M) ∧ (¬ v3 < 0 → (vp_in v3 10 ∧ mx_W m_X5_packed d 9 [.ref a, .long ((v1 <<< ((4 : Int32).toInt64 &&& 63)) ||| ((mx_I M (a + 1) v3.toNatClampNeg).toInt64)), .retAddr 0, .int (v3 + (-1))] [] M Q)))) :
    mx_W m_X5_packed d 9 [.ref a, .long v1, .retAddr 0, .int v3] [] M Q := by
  refine mx_iload_n 3 (mx_da t_X5_packed 7 rfl) rfl rfl rfl ?_
  refine mx_if_lt 31 (mx_da t_X5_packed 8 rfl) rfl rfl (fun g9 => ?_) (fun g9 => ?_)
  · have h := h.1 g9
    refine mx_lload_n 1 (mx_da t_X5_packed 21 rfl) rfl rfl rfl ?_
    refine mx_iconst (v := 4) (mx_da t_X5_packed 22 rfl) rfl rfl ?_
    refine mx_lshl (mx_da t_X5_packed 23 rfl) rfl ?_
    refine mx_aload_n 0 (mx_da t_X5_packed 24 rfl) rfl rfl rfl rfl ?_
    refine mx_getI fs_RX5_15 rfl (row_s T ha) (mx_da t_X5_packed 25 rfl) rfl ?_
    refine mx_i2l (mx_da t_X5_packed 26 rfl) rfl ?_
    refine mx_lor (mx_da t_X5_packed 27 rfl) rfl ?_
    exact mx_lret rfl (mx_da t_X5_packed 28 rfl) h
  · have h := h.2 g9
    refine mx_lload_n 1 (mx_da t_X5_packed 9 rfl) rfl rfl rfl ?_
    refine mx_iconst (v := 4) (mx_da t_X5_packed 10 rfl) rfl rfl ?_
    refine mx_lshl (mx_da t_X5_packed 11 rfl) rfl ?_
    refine mx_aload_n 0 (mx_da t_X5_packed 12 rfl) rfl rfl rfl rfl ?_
    refine mx_getR (a + 1) fs_RX5_9 rfl (row_s T ha) (row_r0 T ha) (mx_da t_X5_packed 13 rfl) rfl ?_
    refine mx_iload_n 3 (mx_da t_X5_packed 14 rfl) rfl rfl rfl ?_
    refine mx_iald (row_a0 T ha) h.1 (mx_da t_X5_packed 15 rfl) rfl ?_
    have h := h.2
    refine mx_i2l (mx_da t_X5_packed 16 rfl) rfl ?_
    refine mx_lor (mx_da t_X5_packed 17 rfl) rfl ?_
    refine mx_lstore_n 1 [.ref a, .long ((v1 <<< ((4 : Int32).toInt64 &&& 63)) ||| ((mx_I M (a + 1) v3.toNatClampNeg).toInt64)), .retAddr 0, .int v3] (mx_da t_X5_packed 18 rfl) rfl rfl (by decide) rfl ?_
    refine mx_iinc 3 (v := v3 + (-1)) [.ref a, .long ((v1 <<< ((4 : Int32).toInt64 &&& 63)) ||| ((mx_I M (a + 1) v3.toNatClampNeg).toInt64)), .retAddr 0, .int (v3 + (-1))] (mx_da t_X5_packed 19 rfl) rfl (by decide) rfl rfl rfl ?_
    refine mx_goto (n := 9) (mx_da t_X5_packed 20 rfl) rfl ?_
    exact h
set_option maxHeartbeats 1000000 in
theorem x_X5_unpack_0 {d : Nat} {M : mx_M} {Q : mx_O → mx_M → Prop} (T : mx_Tp M) (a : Nat) (ha : mx_Row a) (v1 : Int64)
    (h : (mx_W m_J9_min_7cf53 d 0 [.int 10, .int ((v1.toInt32) &&& 15)] [] M (fun o M1 => mx_sh M1 = mx_sh M ∧ mx_R M1 = mx_R M ∧ (∃ x2 : Int32, o = .inl (some (.int x2)) ∧ (∀ M3, M3 = mx_setI M1 a 1 x2 → mx_W m_X5_unpack (d + 1) 16 [.ref a, .long v1, .retAddr 0, .int 0] [] M3 Q))))) :
    mx_W m_X5_unpack (d + 1) 0 [.ref a, .long v1, .retAddr 0, .retAddr 0] [] M Q := by
  refine mx_aload_n 0 (mx_da t_X5_unpack 0 rfl) rfl rfl rfl rfl ?_
  refine mx_bipush (v := 10) (mx_da t_X5_unpack 1 rfl) rfl rfl ?_
  refine mx_lload_n 1 (mx_da t_X5_unpack 2 rfl) rfl rfl rfl ?_
  refine mx_l2i (mx_da t_X5_unpack 3 rfl) rfl ?_
  refine mx_bipush (v := 15) (mx_da t_X5_unpack 4 rfl) rfl rfl ?_
  refine mx_iand (mx_da t_X5_unpack 5 rfl) rfl ?_
  refine mx_callS yJ9_min_7cf53 m_J9_min_7cf53 [.int 10, .int ((v1.toInt32) &&& 15)] mm_J9_min_7cf53 ml_RX5_25 st_J9_min_7cf53 rfl (Nat.le_of_ble_eq_true rfl) (mx_da t_X5_unpack 6 rfl) rfl (Nat.le_of_ble_eq_true rfl) rfl ?_
  refine mx_mono h ?_
  intro o M1 ho
  obtain ⟨e1, e2, ho⟩ := ho
  obtain ⟨x2, rfl, h⟩ := ho
  refine ⟨e1, ?_⟩
  have T := tp_of e1 e2 T
  clear e1 e2
  show mx_W m_X5_unpack (d + 1) 11 [.ref a, .long v1, .retAddr 0, .retAddr 0] [.int x2, .ref a] M1 Q
  refine mx_putI fs_RX5_15 rfl (row_s T ha) rfl rfl rfl (mx_da t_X5_unpack 7 rfl) rfl ?_
  refine mx_gen (mx_setI M1 a 1 x2) (fun M3 e9 => ?_)
  have h := h _ e9
  have T : mx_Tp M3 := tp_e e9 T
  refine mx_iconst (v := 0) (mx_da t_X5_unpack 8 rfl) rfl rfl ?_
  refine mx_istore_n 3 [.ref a, .long v1, .retAddr 0, .int 0] (mx_da t_X5_unpack 9 rfl) rfl rfl (by decide) rfl ?_
  exact h
set_option maxHeartbeats 1000000 in
theorem x_X5_unpack_16 {d : Nat} {M : mx_M} {Q : mx_O → mx_M → Prop} (T : mx_Tp M) (a : Nat) (ha : mx_Row a) (v1 : Int64) (v3 : Int32)
    (h : (((mx_I M a 1) ≤ v3 → Q (.inl none) M) ∧ (¬ (mx_I M a 1) ≤ v3 → (vp_in v3 10 ∧ (∀ M1, M1 = mx_setI M (a + 1) (v3.toNatClampNeg) ((((v1.toUInt64 >>> ((4 * (v3 + 1)).toInt64.toUInt64 &&& Int64.toUInt64 63)).toInt64).toInt32) &&& 15) → mx_W m_X5_unpack (d + 1) 16 [.ref a, .long v1, .retAddr 0, .int (v3 + 1)] [] M1 Q))))) :
    mx_W m_X5_unpack (d + 1) 16 [.ref a, .long v1, .retAddr 0, .int v3] [] M Q := by
  refine mx_iload_n 3 (mx_da t_X5_unpack 10 rfl) rfl rfl rfl ?_
  refine mx_aload_n 0 (mx_da t_X5_unpack 11 rfl) rfl rfl rfl rfl ?_
  refine mx_getI fs_RX5_15 rfl (row_s T ha) (mx_da t_X5_unpack 12 rfl) rfl ?_
  refine mx_icmp_ge 47 (mx_da t_X5_unpack 13 rfl) rfl rfl (fun g9 => ?_) (fun g9 => ?_)
  · have h := h.1 g9
    exact mx_vret rfl (mx_da t_X5_unpack 30 rfl) h
  · have h := h.2 g9
    refine mx_aload_n 0 (mx_da t_X5_unpack 14 rfl) rfl rfl rfl rfl ?_
    refine mx_getR (a + 1) fs_RX5_9 rfl (row_s T ha) (row_r0 T ha) (mx_da t_X5_unpack 15 rfl) rfl ?_
    refine mx_iload_n 3 (mx_da t_X5_unpack 16 rfl) rfl rfl rfl ?_
    refine mx_lload_n 1 (mx_da t_X5_unpack 17 rfl) rfl rfl rfl ?_
    refine mx_iconst (v := 4) (mx_da t_X5_unpack 18 rfl) rfl rfl ?_
    refine mx_iload_n 3 (mx_da t_X5_unpack 19 rfl) rfl rfl rfl ?_
    refine mx_iconst (v := 1) (mx_da t_X5_unpack 20 rfl) rfl rfl ?_
    refine mx_iadd (mx_da t_X5_unpack 21 rfl) rfl ?_
    refine mx_imul (mx_da t_X5_unpack 22 rfl) rfl ?_
    refine mx_lushr (mx_da t_X5_unpack 23 rfl) rfl ?_
    refine mx_l2i (mx_da t_X5_unpack 24 rfl) rfl ?_
    refine mx_bipush (v := 15) (mx_da t_X5_unpack 25 rfl) rfl rfl ?_
    refine mx_iand (mx_da t_X5_unpack 26 rfl) rfl ?_
    refine mx_iast (row_a0 T ha) h.1 (mx_da t_X5_unpack 27 rfl) rfl ?_
    have h := h.2
    refine mx_gen (mx_setI M (a + 1) (v3.toNatClampNeg) ((((v1.toUInt64 >>> ((4 * (v3 + 1)).toInt64.toUInt64 &&& Int64.toUInt64 63)).toInt64).toInt32) &&& 15)) (fun M1 e9 => ?_)
    have h := h _ e9
    have T : mx_Tp M1 := tp_e e9 T
    refine mx_iinc 3 (v := v3 + 1) [.ref a, .long v1, .retAddr 0, .int (v3 + 1)] (mx_da t_X5_unpack 28 rfl) rfl (by decide) rfl rfl rfl ?_
    refine mx_goto (n := 16) (mx_da t_X5_unpack 29 rfl) rfl ?_
    exact h
set_option maxHeartbeats 1000000 in
theorem x_X5_bits_0 {d : Nat} {M : mx_M} {Q : mx_O → mx_M → Prop} (T : mx_Tp M) (a : Nat) (ha : mx_Row a)
    (h : mx_W m_X5_bits d 4 [.ref a, .int 0, .int 0] [] M Q) :
    mx_W m_X5_bits d 0 [.ref a, .retAddr 0, .retAddr 0] [] M Q := by
  refine mx_iconst (v := 0) (mx_da t_X5_bits 0 rfl) rfl rfl ?_
  refine mx_istore_n 1 [.ref a, .int 0, .retAddr 0] (mx_da t_X5_bits 1 rfl) rfl rfl (by decide) rfl ?_
  refine mx_iconst (v := 0) (mx_da t_X5_bits 2 rfl) rfl rfl ?_
  refine mx_istore_n 2 [.ref a, .int 0, .int 0] (mx_da t_X5_bits 3 rfl) rfl rfl (by decide) rfl ?_
  exact h
set_option maxHeartbeats 1000000 in
theorem x_X5_bits_4 {d : Nat} {M : mx_M} {Q : mx_O → mx_M → Prop} (T : mx_Tp M) (a : Nat) (ha : mx_Row a) (v1 : Int32) (v2 : Int32)
    (h : (((mx_I M a 1) ≤ v2 → Q (.inl (some (.int v1))) M) ∧ (¬ (mx_I M a 1) ≤ v2 → (vp_in v2 10 ∧ mx_W m_X5_bits d 4 [.ref a, .int (v1 ||| (1 <<< ((mx_I M (a + 1) v2.toNatClampNeg) &&& 31))), .int (v2 + 1)] [] M Q)))) :
    mx_W m_X5_bits d 4 [.ref a, .int v1, .int v2] [] M Q := by
  refine mx_iload_n 2 (mx_da t_X5_bits 4 rfl) rfl rfl rfl ?_
  refine mx_aload_n 0 (mx_da t_X5_bits 5 rfl) rfl rfl rfl rfl ?_
  refine mx_getI fs_RX5_15 rfl (row_s T ha) (mx_da t_X5_bits 6 rfl) rfl ?_
  refine mx_icmp_ge 29 (mx_da t_X5_bits 7 rfl) rfl rfl (fun g9 => ?_) (fun g9 => ?_)
  · have h := h.1 g9
    refine mx_iload_n 1 (mx_da t_X5_bits 19 rfl) rfl rfl rfl ?_
    exact mx_iret rfl (mx_da t_X5_bits 20 rfl) h
  · have h := h.2 g9
    refine mx_iload_n 1 (mx_da t_X5_bits 8 rfl) rfl rfl rfl ?_
    refine mx_iconst (v := 1) (mx_da t_X5_bits 9 rfl) rfl rfl ?_
    refine mx_aload_n 0 (mx_da t_X5_bits 10 rfl) rfl rfl rfl rfl ?_
    refine mx_getR (a + 1) fs_RX5_9 rfl (row_s T ha) (row_r0 T ha) (mx_da t_X5_bits 11 rfl) rfl ?_
    refine mx_iload_n 2 (mx_da t_X5_bits 12 rfl) rfl rfl rfl ?_
    refine mx_iald (row_a0 T ha) h.1 (mx_da t_X5_bits 13 rfl) rfl ?_
    have h := h.2
    refine mx_ishl (mx_da t_X5_bits 14 rfl) rfl ?_
    refine mx_ior (mx_da t_X5_bits 15 rfl) rfl ?_
    refine mx_istore_n 1 [.ref a, .int (v1 ||| (1 <<< ((mx_I M (a + 1) v2.toNatClampNeg) &&& 31))), .int v2] (mx_da t_X5_bits 16 rfl) rfl rfl (by decide) rfl ?_
    refine mx_iinc 2 (v := v2 + 1) [.ref a, .int (v1 ||| (1 <<< ((mx_I M (a + 1) v2.toNatClampNeg) &&& 31))), .int (v2 + 1)] (mx_da t_X5_bits 17 rfl) rfl (by decide) rfl rfl rfl ?_
    refine mx_goto (n := 4) (mx_da t_X5_bits 18 rfl) rfl ?_
    exact h
set_option maxHeartbeats 1000000 in
theorem x_X5_placeOf_0 {d : Nat} {M : mx_M} {Q : mx_O → mx_M → Prop} (T : mx_Tp M) (a : Nat) (ha : mx_Row a) (v1 : Int32)
    (h : mx_W m_X5_placeOf d 2 [.ref a, .int v1, .int 0] [] M Q) :
    mx_W m_X5_placeOf d 0 [.ref a, .int v1, .retAddr 0] [] M Q := by
  refine mx_iconst (v := 0) (mx_da t_X5_placeOf 0 rfl) rfl rfl ?_
  refine mx_istore_n 2 [.ref a, .int v1, .int 0] (mx_da t_X5_placeOf 1 rfl) rfl rfl (by decide) rfl ?_
  exact h
set_option maxHeartbeats 1000000 in
theorem x_X5_placeOf_2 {d : Nat} {M : mx_M} {Q : mx_O → mx_M → Prop} (T : mx_Tp M) (a : Nat) (ha : mx_Row a) (v1 : Int32) (v2 : Int32)
    (h : (((mx_I M a 1) ≤ v2 → Q (.inl (some (.int (-1)))) M) ∧ (¬ (mx_I M a 1) ≤ v2 → (vp_in v2 10 ∧ ((¬ (mx_I M (a + 1) v2.toNatClampNeg) = v1 → mx_W m_X5_placeOf d 2 [.ref a, .int v1, .int (v2 + 1)] [] M Q) ∧ ((mx_I M (a + 1) v2.toNatClampNeg) = v1 → Q (.inl (some (.int v2))) M)))))) :
    mx_W m_X5_placeOf d 2 [.ref a, .int v1, .int v2] [] M Q := by
  refine mx_iload_n 2 (mx_da t_X5_placeOf 2 rfl) rfl rfl rfl ?_
  refine mx_aload_n 0 (mx_da t_X5_placeOf 3 rfl) rfl rfl rfl rfl ?_
  refine mx_getI fs_RX5_15 rfl (row_s T ha) (mx_da t_X5_placeOf 4 rfl) rfl ?_
  refine mx_icmp_ge 28 (mx_da t_X5_placeOf 5 rfl) rfl rfl (fun g9 => ?_) (fun g9 => ?_)
  · have h := h.1 g9
    refine mx_iconst (v := (-1)) (mx_da t_X5_placeOf 16 rfl) rfl rfl ?_
    exact mx_iret rfl (mx_da t_X5_placeOf 17 rfl) h
  · have h := h.2 g9
    refine mx_aload_n 0 (mx_da t_X5_placeOf 6 rfl) rfl rfl rfl rfl ?_
    refine mx_getR (a + 1) fs_RX5_9 rfl (row_s T ha) (row_r0 T ha) (mx_da t_X5_placeOf 7 rfl) rfl ?_
    refine mx_iload_n 2 (mx_da t_X5_placeOf 8 rfl) rfl rfl rfl ?_
    refine mx_iald (row_a0 T ha) h.1 (mx_da t_X5_placeOf 9 rfl) rfl ?_
    have h := h.2
    refine mx_iload_n 1 (mx_da t_X5_placeOf 10 rfl) rfl rfl rfl ?_
    refine mx_icmp_ne 22 (mx_da t_X5_placeOf 11 rfl) rfl rfl (fun g9 => ?_) (fun g9 => ?_)
    · have h := h.1 g9
      refine mx_iinc 2 (v := v2 + 1) [.ref a, .int v1, .int (v2 + 1)] (mx_da t_X5_placeOf 14 rfl) rfl (by decide) rfl rfl rfl ?_
      refine mx_goto (n := 2) (mx_da t_X5_placeOf 15 rfl) rfl ?_
      exact h
    · have h := h.2 g9
      refine mx_iload_n 2 (mx_da t_X5_placeOf 12 rfl) rfl rfl rfl ?_
      exact mx_iret rfl (mx_da t_X5_placeOf 13 rfl) h
set_option maxHeartbeats 1000000 in
theorem x_X5_insert_0 {d : Nat} {M : mx_M} {Q : mx_O → mx_M → Prop} (T : mx_Tp M) (a : Nat) (ha : mx_Row a) (v1 : Int32) (v2 : Int32)
    (h : (((10 : Int32) ≤ (mx_I M a 1) → Q (.inl none) M) ∧ (¬ (10 : Int32) ≤ (mx_I M a 1) → ((v1 < 0 → Q (.inl none) M) ∧ (¬ v1 < 0 → ((v1 ≤ (mx_I M a 1) → mx_W m_X5_insert d 27 [.ref a, .int v1, .int v2, .int (mx_I M a 1)] [] M Q) ∧ (¬ v1 ≤ (mx_I M a 1) → Q (.inl none) M))))))) :
    mx_W m_X5_insert d 0 [.ref a, .int v1, .int v2, .retAddr 0] [] M Q := by
  refine mx_aload_n 0 (mx_da t_X5_insert 0 rfl) rfl rfl rfl rfl ?_
  refine mx_getI fs_RX5_15 rfl (row_s T ha) (mx_da t_X5_insert 1 rfl) rfl ?_
  refine mx_bipush (v := 10) (mx_da t_X5_insert 2 rfl) rfl rfl ?_
  refine mx_icmp_ge 21 (mx_da t_X5_insert 3 rfl) rfl rfl (fun g9 => ?_) (fun g9 => ?_)
  · have h := h.1 g9
    exact mx_vret rfl (mx_da t_X5_insert 10 rfl) h
  · have h := h.2 g9
    refine mx_iload_n 1 (mx_da t_X5_insert 4 rfl) rfl rfl rfl ?_
    refine mx_if_lt 21 (mx_da t_X5_insert 5 rfl) rfl rfl (fun g9 => ?_) (fun g9 => ?_)
    · have h := h.1 g9
      exact mx_vret rfl (mx_da t_X5_insert 10 rfl) h
    · have h := h.2 g9
      refine mx_iload_n 1 (mx_da t_X5_insert 6 rfl) rfl rfl rfl ?_
      refine mx_aload_n 0 (mx_da t_X5_insert 7 rfl) rfl rfl rfl rfl ?_
      refine mx_getI fs_RX5_15 rfl (row_s T ha) (mx_da t_X5_insert 8 rfl) rfl ?_
      refine mx_icmp_le 22 (mx_da t_X5_insert 9 rfl) rfl rfl (fun g9 => ?_) (fun g9 => ?_)
      · have h := h.1 g9
        refine mx_aload_n 0 (mx_da t_X5_insert 11 rfl) rfl rfl rfl rfl ?_
        refine mx_getI fs_RX5_15 rfl (row_s T ha) (mx_da t_X5_insert 12 rfl) rfl ?_
        refine mx_istore_n 3 [.ref a, .int v1, .int v2, .int (mx_I M a 1)] (mx_da t_X5_insert 13 rfl) rfl rfl (by decide) rfl ?_
        exact h
      · have h := h.2 g9
        exact mx_vret rfl (mx_da t_X5_insert 10 rfl) h
set_option maxHeartbeats 1000000 in
theorem x_X5_insert_27 {d : Nat} {M : mx_M} {Q : mx_O → mx_M → Prop} (T : mx_Tp M) (a : Nat) (ha : mx_Row a) (v1 : Int32) (v2 : Int32) (v3 : Int32)
    (h : ((v3 ≤ v1 → (vp_in v1 10 ∧ (∀ M1, M1 = mx_setI M (a + 1) (v1.toNatClampNeg) v2 → (∀ M2, M2 = mx_setI M1 a 1 ((mx_I M1 a 1) + 1) → Q (.inl none) M2)))) ∧ (¬ v3 ≤ v1 → (vp_in (v3 - 1) 10 ∧ (vp_in v3 10 ∧ (∀ M3, M3 = mx_setI M (a + 1) (v3.toNatClampNeg) (mx_I M (a + 1) (v3 - 1).toNatClampNeg) → mx_W m_X5_insert d 27 [.ref a, .int v1, .int v2, .int (v3 + (-1))] [] M3 Q)))))) :
    mx_W m_X5_insert d 27 [.ref a, .int v1, .int v2, .int v3] [] M Q := by
  refine mx_iload_n 3 (mx_da t_X5_insert 14 rfl) rfl rfl rfl ?_
  refine mx_iload_n 1 (mx_da t_X5_insert 15 rfl) rfl rfl rfl ?_
  refine mx_icmp_le 52 (mx_da t_X5_insert 16 rfl) rfl rfl (fun g9 => ?_) (fun g9 => ?_)
  · have h := h.1 g9
    refine mx_aload_n 0 (mx_da t_X5_insert 29 rfl) rfl rfl rfl rfl ?_
    refine mx_getR (a + 1) fs_RX5_9 rfl (row_s T ha) (row_r0 T ha) (mx_da t_X5_insert 30 rfl) rfl ?_
    refine mx_iload_n 1 (mx_da t_X5_insert 31 rfl) rfl rfl rfl ?_
    refine mx_iload_n 2 (mx_da t_X5_insert 32 rfl) rfl rfl rfl ?_
    refine mx_iast (row_a0 T ha) h.1 (mx_da t_X5_insert 33 rfl) rfl ?_
    have h := h.2
    refine mx_gen (mx_setI M (a + 1) (v1.toNatClampNeg) v2) (fun M1 e9 => ?_)
    have h := h _ e9
    have T : mx_Tp M1 := tp_e e9 T
    refine mx_aload_n 0 (mx_da t_X5_insert 34 rfl) rfl rfl rfl rfl ?_
    refine mx_dup (mx_da t_X5_insert 35 rfl) rfl rfl ?_
    refine mx_getI fs_RX5_15 rfl (row_s T ha) (mx_da t_X5_insert 36 rfl) rfl ?_
    refine mx_iconst (v := 1) (mx_da t_X5_insert 37 rfl) rfl rfl ?_
    refine mx_iadd (mx_da t_X5_insert 38 rfl) rfl ?_
    refine mx_putI fs_RX5_15 rfl (row_s T ha) rfl rfl rfl (mx_da t_X5_insert 39 rfl) rfl ?_
    refine mx_gen (mx_setI M1 a 1 ((mx_I M1 a 1) + 1)) (fun M2 e9 => ?_)
    have h := h _ e9
    have T : mx_Tp M2 := tp_e e9 T
    exact mx_vret rfl (mx_da t_X5_insert 40 rfl) h
  · have h := h.2 g9
    refine mx_aload_n 0 (mx_da t_X5_insert 17 rfl) rfl rfl rfl rfl ?_
    refine mx_getR (a + 1) fs_RX5_9 rfl (row_s T ha) (row_r0 T ha) (mx_da t_X5_insert 18 rfl) rfl ?_
    refine mx_iload_n 3 (mx_da t_X5_insert 19 rfl) rfl rfl rfl ?_
    refine mx_aload_n 0 (mx_da t_X5_insert 20 rfl) rfl rfl rfl rfl ?_
    refine mx_getR (a + 1) fs_RX5_9 rfl (row_s T ha) (row_r0 T ha) (mx_da t_X5_insert 21 rfl) rfl ?_
    refine mx_iload_n 3 (mx_da t_X5_insert 22 rfl) rfl rfl rfl ?_
    refine mx_iconst (v := 1) (mx_da t_X5_insert 23 rfl) rfl rfl ?_
    refine mx_isub (mx_da t_X5_insert 24 rfl) rfl ?_
    refine mx_iald (row_a0 T ha) h.1 (mx_da t_X5_insert 25 rfl) rfl ?_
    have h := h.2
    refine mx_iast (row_a0 T ha) h.1 (mx_da t_X5_insert 26 rfl) rfl ?_
    have h := h.2
    refine mx_gen (mx_setI M (a + 1) (v3.toNatClampNeg) (mx_I M (a + 1) (v3 - 1).toNatClampNeg)) (fun M3 e9 => ?_)
    have h := h _ e9
    have T : mx_Tp M3 := tp_e e9 T
    refine mx_iinc 3 (v := v3 + (-1)) [.ref a, .int v1, .int v2, .int (v3 + (-1))] (mx_da t_X5_insert 27 rfl) rfl (by decide) rfl rfl rfl ?_
    refine mx_goto (n := 27) (mx_da t_X5_insert 28 rfl) rfl ?_
    exact h
set_option maxHeartbeats 1000000 in
theorem x_X5_remove_0 {d : Nat} {M : mx_M} {Q : mx_O → mx_M → Prop} (T : mx_Tp M) (a : Nat) (ha : mx_Row a) (v1 : Int32)
    (h : ((v1 < 0 → Q (.inl none) M) ∧ (¬ v1 < 0 → ((v1 < (mx_I M a 1) → (∀ M1, M1 = mx_setI M a 1 ((mx_I M a 1) - 1) → mx_W m_X5_remove d 25 [.ref a, .retAddr 0, .int v1] [] M1 Q)) ∧ (¬ v1 < (mx_I M a 1) → Q (.inl none) M))))) :
    mx_W m_X5_remove d 0 [.ref a, .int v1, .retAddr 0] [] M Q := by
  refine mx_iload_n 1 (mx_da t_X5_remove 0 rfl) rfl rfl rfl ?_
  refine mx_if_lt 12 (mx_da t_X5_remove 1 rfl) rfl rfl (fun g9 => ?_) (fun g9 => ?_)
  · have h := h.1 g9
    exact mx_vret rfl (mx_da t_X5_remove 6 rfl) h
  · have h := h.2 g9
    refine mx_iload_n 1 (mx_da t_X5_remove 2 rfl) rfl rfl rfl ?_
    refine mx_aload_n 0 (mx_da t_X5_remove 3 rfl) rfl rfl rfl rfl ?_
    refine mx_getI fs_RX5_15 rfl (row_s T ha) (mx_da t_X5_remove 4 rfl) rfl ?_
    refine mx_icmp_lt 13 (mx_da t_X5_remove 5 rfl) rfl rfl (fun g9 => ?_) (fun g9 => ?_)
    · have h := h.1 g9
      refine mx_aload_n 0 (mx_da t_X5_remove 7 rfl) rfl rfl rfl rfl ?_
      refine mx_dup (mx_da t_X5_remove 8 rfl) rfl rfl ?_
      refine mx_getI fs_RX5_15 rfl (row_s T ha) (mx_da t_X5_remove 9 rfl) rfl ?_
      refine mx_iconst (v := 1) (mx_da t_X5_remove 10 rfl) rfl rfl ?_
      refine mx_isub (mx_da t_X5_remove 11 rfl) rfl ?_
      refine mx_putI fs_RX5_15 rfl (row_s T ha) rfl rfl rfl (mx_da t_X5_remove 12 rfl) rfl ?_
      refine mx_gen (mx_setI M a 1 ((mx_I M a 1) - 1)) (fun M1 e9 => ?_)
      have h := h _ e9
      have T : mx_Tp M1 := tp_e e9 T
      refine mx_iload_n 1 (mx_da t_X5_remove 13 rfl) rfl rfl rfl ?_
      refine mx_istore_n 2 [.ref a, .int v1, .int v1] (mx_da t_X5_remove 14 rfl) rfl rfl (by decide) rfl ?_
      exact mx_wkn [.ref a, .retAddr 0, .int v1] ⟨Or.inr rfl, Or.inl rfl, Or.inr rfl, trivial⟩ h
    · have h := h.2 g9
      exact mx_vret rfl (mx_da t_X5_remove 6 rfl) h
set_option maxHeartbeats 1000000 in
theorem x_X5_remove_25 {d : Nat} {M : mx_M} {Q : mx_O → mx_M → Prop} (T : mx_Tp M) (a : Nat) (ha : mx_Row a) (v2 : Int32)
    (h : (((mx_I M a 1) ≤ v2 → Q (.inl none) M) ∧ (¬ (mx_I M a 1) ≤ v2 → (vp_in (v2 + 1) 10 ∧ (vp_in v2 10 ∧ (∀ M1, M1 = mx_setI M (a + 1) (v2.toNatClampNeg) (mx_I M (a + 1) (v2 + 1).toNatClampNeg) → mx_W m_X5_remove d 25 [.ref a, .retAddr 0, .int (v2 + 1)] [] M1 Q)))))) :
    mx_W m_X5_remove d 25 [.ref a, .retAddr 0, .int v2] [] M Q := by
  refine mx_iload_n 2 (mx_da t_X5_remove 15 rfl) rfl rfl rfl ?_
  refine mx_aload_n 0 (mx_da t_X5_remove 16 rfl) rfl rfl rfl rfl ?_
  refine mx_getI fs_RX5_15 rfl (row_s T ha) (mx_da t_X5_remove 17 rfl) rfl ?_
  refine mx_icmp_ge 53 (mx_da t_X5_remove 18 rfl) rfl rfl (fun g9 => ?_) (fun g9 => ?_)
  · have h := h.1 g9
    exact mx_vret rfl (mx_da t_X5_remove 31 rfl) h
  · have h := h.2 g9
    refine mx_aload_n 0 (mx_da t_X5_remove 19 rfl) rfl rfl rfl rfl ?_
    refine mx_getR (a + 1) fs_RX5_9 rfl (row_s T ha) (row_r0 T ha) (mx_da t_X5_remove 20 rfl) rfl ?_
    refine mx_iload_n 2 (mx_da t_X5_remove 21 rfl) rfl rfl rfl ?_
    refine mx_aload_n 0 (mx_da t_X5_remove 22 rfl) rfl rfl rfl rfl ?_
    refine mx_getR (a + 1) fs_RX5_9 rfl (row_s T ha) (row_r0 T ha) (mx_da t_X5_remove 23 rfl) rfl ?_
    refine mx_iload_n 2 (mx_da t_X5_remove 24 rfl) rfl rfl rfl ?_
    refine mx_iconst (v := 1) (mx_da t_X5_remove 25 rfl) rfl rfl ?_
    refine mx_iadd (mx_da t_X5_remove 26 rfl) rfl ?_
    refine mx_iald (row_a0 T ha) h.1 (mx_da t_X5_remove 27 rfl) rfl ?_
    have h := h.2
    refine mx_iast (row_a0 T ha) h.1 (mx_da t_X5_remove 28 rfl) rfl ?_
    have h := h.2
    refine mx_gen (mx_setI M (a + 1) (v2.toNatClampNeg) (mx_I M (a + 1) (v2 + 1).toNatClampNeg)) (fun M1 e9 => ?_)
    have h := h _ e9
    have T : mx_Tp M1 := tp_e e9 T
    refine mx_iinc 2 (v := v2 + 1) [.ref a, .retAddr 0, .int (v2 + 1)] (mx_da t_X5_remove 29 rfl) rfl (by decide) rfl rfl rfl ?_
    refine mx_goto (n := 25) (mx_da t_X5_remove 30 rfl) rfl ?_
    exact h
set_option maxHeartbeats 1000000 in
theorem x_X5_placeFor_0 {d : Nat} {M : mx_M} {Q : mx_O → mx_M → Prop} (T : mx_Tp M) (a : Nat) (ha : mx_Row a) (v2 : Int32) (v3 : Int32)
    (h : mx_W m_X5_placeFor (d + 1) 3 [.ref a, .ref 24, .int v2, .int v3, .int 0] [] M Q) :
    mx_W m_X5_placeFor (d + 1) 0 [.ref a, .ref 24, .int v2, .int v3, .retAddr 0] [] M Q := by
  refine mx_iconst (v := 0) (mx_da t_X5_placeFor 0 rfl) rfl rfl ?_
  refine mx_istore 4 [.ref a, .ref 24, .int v2, .int v3, .int 0] (mx_da t_X5_placeFor 1 rfl) rfl (by decide) rfl ?_
  exact h
set_option maxHeartbeats 1000000 in
theorem x_X5_placeFor_3 {d : Nat} {M : mx_M} {Q : mx_O → mx_M → Prop} (T : mx_Tp M) (a : Nat) (ha : mx_Row a) (v2 : Int32) (v3 : Int32) (v4 : Int32)
    (h : (((mx_I M a 1) ≤ v4 → Q (.inl (some (.int (mx_I M a 1)))) M) ∧ (¬ (mx_I M a 1) ≤ v4 → (vp_in v4 10 ∧ (mx_W m_X3_isAhead d 0 [.ref 24, .int v2, .int v3, .int (mx_I M (a + 1) v4.toNatClampNeg)] [] M (fun o M1 => mx_sh M1 = mx_sh M ∧ mx_R M1 = mx_R M ∧ (∃ x2 : Bool, o = .inl (some (.int (mx_b x2))) ∧ ((x2 = false → mx_W m_X5_placeFor (d + 1) 3 [.ref a, .ref 24, .int v2, .int v3, .int (v4 + 1)] [] M1 Q) ∧ (x2 = true → Q (.inl (some (.int v4))) M1))))))))) :
    mx_W m_X5_placeFor (d + 1) 3 [.ref a, .ref 24, .int v2, .int v3, .int v4] [] M Q := by
  refine mx_iload 4 (mx_da t_X5_placeFor 2 rfl) rfl rfl ?_
  refine mx_aload_n 0 (mx_da t_X5_placeFor 3 rfl) rfl rfl rfl rfl ?_
  refine mx_getI fs_RX5_15 rfl (row_s T ha) (mx_da t_X5_placeFor 4 rfl) rfl ?_
  refine mx_icmp_ge 37 (mx_da t_X5_placeFor 5 rfl) rfl rfl (fun g9 => ?_) (fun g9 => ?_)
  · have h := h.1 g9
    refine mx_aload_n 0 (mx_da t_X5_placeFor 19 rfl) rfl rfl rfl rfl ?_
    refine mx_getI fs_RX5_15 rfl (row_s T ha) (mx_da t_X5_placeFor 20 rfl) rfl ?_
    exact mx_iret rfl (mx_da t_X5_placeFor 21 rfl) h
  · have h := h.2 g9
    refine mx_aload_n 1 (mx_da t_X5_placeFor 6 rfl) rfl rfl rfl rfl ?_
    refine mx_iload_n 2 (mx_da t_X5_placeFor 7 rfl) rfl rfl rfl ?_
    refine mx_iload_n 3 (mx_da t_X5_placeFor 8 rfl) rfl rfl rfl ?_
    refine mx_aload_n 0 (mx_da t_X5_placeFor 9 rfl) rfl rfl rfl rfl ?_
    refine mx_getR (a + 1) fs_RX5_9 rfl (row_s T ha) (row_r0 T ha) (mx_da t_X5_placeFor 10 rfl) rfl ?_
    refine mx_iload 4 (mx_da t_X5_placeFor 11 rfl) rfl rfl ?_
    refine mx_iald (row_a0 T ha) h.1 (mx_da t_X5_placeFor 12 rfl) rfl ?_
    have h := h.2
    refine mx_callV yX3_isAhead m_X3_isAhead [.int v2, .int v3, .int (mx_I M (a + 1) v4.toNatClampNeg)] mm_X3_isAhead ml_RX5_31 im_X3_isAhead se_X3_isAhead (tp_s T 24 rfl) rfl rfl (Nat.le_of_ble_eq_true rfl) (mx_da t_X5_placeFor 13 rfl) rfl (Nat.le_of_ble_eq_true rfl) rfl ?_
    refine mx_mono h ?_
    intro o M1 ho
    obtain ⟨e1, e2, ho⟩ := ho
    obtain ⟨x2, rfl, h⟩ := ho
    refine ⟨e1, ?_⟩
    have T := tp_of e1 e2 T
    clear e1 e2
    show mx_W m_X5_placeFor (d + 1) 25 [.ref a, .ref 24, .int v2, .int v3, .int v4] [.int (mx_b x2)] M1 Q
    refine mx_if_eq 31 (mx_da t_X5_placeFor 14 rfl) rfl rfl (fun g9 => ?_) (fun g9 => ?_)
    · have h := h.1 (mx_b0.mp g9)
      refine mx_iinc 4 (v := v4 + 1) [.ref a, .ref 24, .int v2, .int v3, .int (v4 + 1)] (mx_da t_X5_placeFor 17 rfl) rfl (by decide) rfl rfl rfl ?_
      refine mx_goto (n := 3) (mx_da t_X5_placeFor 18 rfl) rfl ?_
      exact h
    · have h := h.2 (mx_bn.mp g9)
      refine mx_iload 4 (mx_da t_X5_placeFor 15 rfl) rfl rfl ?_
      exact mx_iret rfl (mx_da t_X5_placeFor 16 rfl) h
set_option maxHeartbeats 1000000 in
theorem x_X5_sort_0 {d : Nat} {M : mx_M} {Q : mx_O → mx_M → Prop} (T : mx_Tp M) (a : Nat) (ha : mx_Row a) (v2 : Int32)
    (h : mx_W m_X5_sort (d + 1) 2 [.ref a, .ref 24, .int v2, .int 1, .retAddr 0, .retAddr 0] [] M Q) :
    mx_W m_X5_sort (d + 1) 0 [.ref a, .ref 24, .int v2, .retAddr 0, .retAddr 0, .retAddr 0] [] M Q := by
  refine mx_iconst (v := 1) (mx_da t_X5_sort 0 rfl) rfl rfl ?_
  refine mx_istore_n 3 [.ref a, .ref 24, .int v2, .int 1, .retAddr 0, .retAddr 0] (mx_da t_X5_sort 1 rfl) rfl rfl (by decide) rfl ?_
  exact h
set_option maxHeartbeats 1000000 in
theorem x_X5_sort_2 {d : Nat} {M : mx_M} {Q : mx_O → mx_M → Prop} (T : mx_Tp M) (a : Nat) (ha : mx_Row a) (v2 : Int32) (v3 : Int32)
    (h : (((mx_I M a 1) ≤ v3 → Q (.inl none) M) ∧ (¬ (mx_I M a 1) ≤ v3 → (vp_in v3 10 ∧ mx_W m_X5_sort (d + 1) 21 [.ref a, .ref 24, .int v2, .int v3, .int (mx_I M (a + 1) v3.toNatClampNeg), .int v3] [] M Q)))) :
    mx_W m_X5_sort (d + 1) 2 [.ref a, .ref 24, .int v2, .int v3, .retAddr 0, .retAddr 0] [] M Q := by
  refine mx_iload_n 3 (mx_da t_X5_sort 2 rfl) rfl rfl rfl ?_
  refine mx_aload_n 0 (mx_da t_X5_sort 3 rfl) rfl rfl rfl rfl ?_
  refine mx_getI fs_RX5_15 rfl (row_s T ha) (mx_da t_X5_sort 4 rfl) rfl ?_
  refine mx_icmp_ge 82 (mx_da t_X5_sort 5 rfl) rfl rfl (fun g9 => ?_) (fun g9 => ?_)
  · have h := h.1 g9
    exact mx_vret rfl (mx_da t_X5_sort 45 rfl) h
  · have h := h.2 g9
    refine mx_aload_n 0 (mx_da t_X5_sort 6 rfl) rfl rfl rfl rfl ?_
    refine mx_getR (a + 1) fs_RX5_9 rfl (row_s T ha) (row_r0 T ha) (mx_da t_X5_sort 7 rfl) rfl ?_
    refine mx_iload_n 3 (mx_da t_X5_sort 8 rfl) rfl rfl rfl ?_
    refine mx_iald (row_a0 T ha) h.1 (mx_da t_X5_sort 9 rfl) rfl ?_
    have h := h.2
    refine mx_istore 4 [.ref a, .ref 24, .int v2, .int v3, .int (mx_I M (a + 1) v3.toNatClampNeg), .retAddr 0] (mx_da t_X5_sort 10 rfl) rfl (by decide) rfl ?_
    refine mx_iload_n 3 (mx_da t_X5_sort 11 rfl) rfl rfl rfl ?_
    refine mx_istore 5 [.ref a, .ref 24, .int v2, .int v3, .int (mx_I M (a + 1) v3.toNatClampNeg), .int v3] (mx_da t_X5_sort 12 rfl) rfl (by decide) rfl ?_
    exact h
set_option maxHeartbeats 1000000 in
theorem x_X5_sort_21 {d : Nat} {M : mx_M} {Q : mx_O → mx_M → Prop} (T : mx_Tp M) (a : Nat) (ha : mx_Row a) (v2 : Int32) (v3 : Int32) (v4 : Int32) (v5 : Int32)
    (h : ((v5 ≤ 0 → (vp_in v5 10 ∧ (∀ M1, M1 = mx_setI M (a + 1) (v5.toNatClampNeg) v4 → mx_W m_X5_sort (d + 1) 2 [.ref a, .ref 24, .int v2, .int (v3 + 1), .retAddr 0, .retAddr 0] [] M1 Q))) ∧ (¬ v5 ≤ 0 → (vp_in (v5 - 1) 10 ∧ (mx_W m_X3_isAhead d 0 [.ref 24, .int v2, .int v4, .int (mx_I M (a + 1) (v5 - 1).toNatClampNeg)] [] M (fun o M2 => mx_sh M2 = mx_sh M ∧ mx_R M2 = mx_R M ∧ (∃ x3 : Bool, o = .inl (some (.int (mx_b x3))) ∧ ((x3 = false → (vp_in v5 10 ∧ (∀ M4, M4 = mx_setI M2 (a + 1) (v5.toNatClampNeg) v4 → mx_W m_X5_sort (d + 1) 2 [.ref a, .ref 24, .int v2, .int (v3 + 1), .retAddr 0, .retAddr 0] [] M4 Q))) ∧ (x3 = true → (vp_in (v5 - 1) 10 ∧ (vp_in v5 10 ∧ (∀ M5, M5 = mx_setI M2 (a + 1) (v5.toNatClampNeg) (mx_I M2 (a + 1) (v5 - 1).toNatClampNeg) → mx_W m_X5_sort (d + 1) 21 [.ref a, .ref 24, .int v2, .int v3, .int v4, .int (v5 + (-1))] [] M5 Q)))))))))))) :
    mx_W m_X5_sort (d + 1) 21 [.ref a, .ref 24, .int v2, .int v3, .int v4, .int v5] [] M Q := by
  refine mx_iload 5 (mx_da t_X5_sort 13 rfl) rfl rfl ?_
  refine mx_if_le 67 (mx_da t_X5_sort 14 rfl) rfl rfl (fun g9 => ?_) (fun g9 => ?_)
  · have h := h.1 g9
    refine mx_aload_n 0 (mx_da t_X5_sort 38 rfl) rfl rfl rfl rfl ?_
    refine mx_getR (a + 1) fs_RX5_9 rfl (row_s T ha) (row_r0 T ha) (mx_da t_X5_sort 39 rfl) rfl ?_
    refine mx_iload 5 (mx_da t_X5_sort 40 rfl) rfl rfl ?_
    refine mx_iload 4 (mx_da t_X5_sort 41 rfl) rfl rfl ?_
    refine mx_iast (row_a0 T ha) h.1 (mx_da t_X5_sort 42 rfl) rfl ?_
    have h := h.2
    refine mx_gen (mx_setI M (a + 1) (v5.toNatClampNeg) v4) (fun M1 e9 => ?_)
    have h := h _ e9
    have T : mx_Tp M1 := tp_e e9 T
    refine mx_iinc 3 (v := v3 + 1) [.ref a, .ref 24, .int v2, .int (v3 + 1), .int v4, .int v5] (mx_da t_X5_sort 43 rfl) rfl (by decide) rfl rfl rfl ?_
    refine mx_goto (n := 2) (mx_da t_X5_sort 44 rfl) rfl ?_
    exact mx_wkn [.ref a, .ref 24, .int v2, .int (v3 + 1), .retAddr 0, .retAddr 0] ⟨Or.inr rfl, Or.inr rfl, Or.inr rfl, Or.inr rfl, Or.inl rfl, Or.inl rfl, trivial⟩ h
  · have h := h.2 g9
    refine mx_aload_n 1 (mx_da t_X5_sort 15 rfl) rfl rfl rfl rfl ?_
    refine mx_iload_n 2 (mx_da t_X5_sort 16 rfl) rfl rfl rfl ?_
    refine mx_iload 4 (mx_da t_X5_sort 17 rfl) rfl rfl ?_
    refine mx_aload_n 0 (mx_da t_X5_sort 18 rfl) rfl rfl rfl rfl ?_
    refine mx_getR (a + 1) fs_RX5_9 rfl (row_s T ha) (row_r0 T ha) (mx_da t_X5_sort 19 rfl) rfl ?_
    refine mx_iload 5 (mx_da t_X5_sort 20 rfl) rfl rfl ?_
    refine mx_iconst (v := 1) (mx_da t_X5_sort 21 rfl) rfl rfl ?_
    refine mx_isub (mx_da t_X5_sort 22 rfl) rfl ?_
    refine mx_iald (row_a0 T ha) h.1 (mx_da t_X5_sort 23 rfl) rfl ?_
    have h := h.2
    refine mx_callV yX3_isAhead m_X3_isAhead [.int v2, .int v4, .int (mx_I M (a + 1) (v5 - 1).toNatClampNeg)] mm_X3_isAhead ml_RX5_31 im_X3_isAhead se_X3_isAhead (tp_s T 24 rfl) rfl rfl (Nat.le_of_ble_eq_true rfl) (mx_da t_X5_sort 24 rfl) rfl (Nat.le_of_ble_eq_true rfl) rfl ?_
    refine mx_mono h ?_
    intro o M2 ho
    obtain ⟨e1, e2, ho⟩ := ho
    obtain ⟨x3, rfl, h⟩ := ho
    refine ⟨e1, ?_⟩
    have T := tp_of e1 e2 T
    clear e1 e2
    show mx_W m_X5_sort (d + 1) 42 [.ref a, .ref 24, .int v2, .int v3, .int v4, .int v5] [.int (mx_b x3)] M2 Q
    refine mx_if_eq 67 (mx_da t_X5_sort 25 rfl) rfl rfl (fun g9 => ?_) (fun g9 => ?_)
    · have h := h.1 (mx_b0.mp g9)
      refine mx_aload_n 0 (mx_da t_X5_sort 38 rfl) rfl rfl rfl rfl ?_
      refine mx_getR (a + 1) fs_RX5_9 rfl (row_s T ha) (row_r0 T ha) (mx_da t_X5_sort 39 rfl) rfl ?_
      refine mx_iload 5 (mx_da t_X5_sort 40 rfl) rfl rfl ?_
      refine mx_iload 4 (mx_da t_X5_sort 41 rfl) rfl rfl ?_
      refine mx_iast (row_a0 T ha) h.1 (mx_da t_X5_sort 42 rfl) rfl ?_
      have h := h.2
      refine mx_gen (mx_setI M2 (a + 1) (v5.toNatClampNeg) v4) (fun M4 e9 => ?_)
      have h := h _ e9
      have T : mx_Tp M4 := tp_e e9 T
      refine mx_iinc 3 (v := v3 + 1) [.ref a, .ref 24, .int v2, .int (v3 + 1), .int v4, .int v5] (mx_da t_X5_sort 43 rfl) rfl (by decide) rfl rfl rfl ?_
      refine mx_goto (n := 2) (mx_da t_X5_sort 44 rfl) rfl ?_
      exact mx_wkn [.ref a, .ref 24, .int v2, .int (v3 + 1), .retAddr 0, .retAddr 0] ⟨Or.inr rfl, Or.inr rfl, Or.inr rfl, Or.inr rfl, Or.inl rfl, Or.inl rfl, trivial⟩ h
    · have h := h.2 (mx_bn.mp g9)
      refine mx_aload_n 0 (mx_da t_X5_sort 26 rfl) rfl rfl rfl rfl ?_
      refine mx_getR (a + 1) fs_RX5_9 rfl (row_s T ha) (row_r0 T ha) (mx_da t_X5_sort 27 rfl) rfl ?_
      refine mx_iload 5 (mx_da t_X5_sort 28 rfl) rfl rfl ?_
      refine mx_aload_n 0 (mx_da t_X5_sort 29 rfl) rfl rfl rfl rfl ?_
      refine mx_getR (a + 1) fs_RX5_9 rfl (row_s T ha) (row_r0 T ha) (mx_da t_X5_sort 30 rfl) rfl ?_
      refine mx_iload 5 (mx_da t_X5_sort 31 rfl) rfl rfl ?_
      refine mx_iconst (v := 1) (mx_da t_X5_sort 32 rfl) rfl rfl ?_
      refine mx_isub (mx_da t_X5_sort 33 rfl) rfl ?_
      refine mx_iald (row_a0 T ha) h.1 (mx_da t_X5_sort 34 rfl) rfl ?_
      have h := h.2
      refine mx_iast (row_a0 T ha) h.1 (mx_da t_X5_sort 35 rfl) rfl ?_
      have h := h.2
      refine mx_gen (mx_setI M2 (a + 1) (v5.toNatClampNeg) (mx_I M2 (a + 1) (v5 - 1).toNatClampNeg)) (fun M5 e9 => ?_)
      have h := h _ e9
      have T : mx_Tp M5 := tp_e e9 T
      refine mx_iinc 5 (v := v5 + (-1)) [.ref a, .ref 24, .int v2, .int v3, .int v4, .int (v5 + (-1))] (mx_da t_X5_sort 36 rfl) rfl (by decide) rfl rfl rfl ?_
      refine mx_goto (n := 21) (mx_da t_X5_sort 37 rfl) rfl ?_
      exact h
set_option maxHeartbeats 1000000 in
theorem x_X5_countAhead_0 {d : Nat} {M : mx_M} {Q : mx_O → mx_M → Prop} (T : mx_Tp M) (a : Nat) (ha : mx_Row a) (v2 : Int32) (v3 : Int32)
    (h : mx_W m_X5_countAhead (d + 1) 6 [.ref a, .ref 24, .int v2, .int v3, .int 0, .int 0] [] M Q) :
    mx_W m_X5_countAhead (d + 1) 0 [.ref a, .ref 24, .int v2, .int v3, .retAddr 0, .retAddr 0] [] M Q := by
  refine mx_iconst (v := 0) (mx_da t_X5_countAhead 0 rfl) rfl rfl ?_
  refine mx_istore 4 [.ref a, .ref 24, .int v2, .int v3, .int 0, .retAddr 0] (mx_da t_X5_countAhead 1 rfl) rfl (by decide) rfl ?_
  refine mx_iconst (v := 0) (mx_da t_X5_countAhead 2 rfl) rfl rfl ?_
  refine mx_istore 5 [.ref a, .ref 24, .int v2, .int v3, .int 0, .int 0] (mx_da t_X5_countAhead 3 rfl) rfl (by decide) rfl ?_
  exact h
set_option maxHeartbeats 1000000 in
theorem x_X5_countAhead_6 {d : Nat} {M : mx_M} {Q : mx_O → mx_M → Prop} (T : mx_Tp M) (a : Nat) (ha : mx_Row a) (v2 : Int32) (v3 : Int32) (v4 : Int32) (v5 : Int32)
    (h : (((mx_I M a 1) ≤ v5 → Q (.inl (some (.int v4))) M) ∧ (¬ (mx_I M a 1) ≤ v5 → (vp_in v5 10 ∧ (mx_W m_X3_isAhead d 0 [.ref 24, .int v2, .int (mx_I M (a + 1) v5.toNatClampNeg), .int v3] [] M (fun o M1 => mx_sh M1 = mx_sh M ∧ mx_R M1 = mx_R M ∧ (∃ x2 : Bool, o = .inl (some (.int (mx_b x2))) ∧ ((x2 = false → mx_W m_X5_countAhead (d + 1) 6 [.ref a, .ref 24, .int v2, .int v3, .int v4, .int (v5 + 1)] [] M1 Q) ∧ (x2 = true → mx_W m_X5_countAhead (d + 1) 6 [.ref a, .ref 24, .int v2, .int v3, .int (v4 + 1), .int (v5 + 1)] [] M1 Q))))))))) :
    mx_W m_X5_countAhead (d + 1) 6 [.ref a, .ref 24, .int v2, .int v3, .int v4, .int v5] [] M Q := by
  refine mx_iload 5 (mx_da t_X5_countAhead 4 rfl) rfl rfl ?_
  refine mx_aload_n 0 (mx_da t_X5_countAhead 5 rfl) rfl rfl rfl rfl ?_
  refine mx_getI fs_RX5_15 rfl (row_s T ha) (mx_da t_X5_countAhead 6 rfl) rfl ?_
  refine mx_icmp_ge 40 (mx_da t_X5_countAhead 7 rfl) rfl rfl (fun g9 => ?_) (fun g9 => ?_)
  · have h := h.1 g9
    refine mx_iload 4 (mx_da t_X5_countAhead 20 rfl) rfl rfl ?_
    exact mx_iret rfl (mx_da t_X5_countAhead 21 rfl) h
  · have h := h.2 g9
    refine mx_aload_n 1 (mx_da t_X5_countAhead 8 rfl) rfl rfl rfl rfl ?_
    refine mx_iload_n 2 (mx_da t_X5_countAhead 9 rfl) rfl rfl rfl ?_
    refine mx_aload_n 0 (mx_da t_X5_countAhead 10 rfl) rfl rfl rfl rfl ?_
    refine mx_getR (a + 1) fs_RX5_9 rfl (row_s T ha) (row_r0 T ha) (mx_da t_X5_countAhead 11 rfl) rfl ?_
    refine mx_iload 5 (mx_da t_X5_countAhead 12 rfl) rfl rfl ?_
    refine mx_iald (row_a0 T ha) h.1 (mx_da t_X5_countAhead 13 rfl) rfl ?_
    have h := h.2
    refine mx_iload_n 3 (mx_da t_X5_countAhead 14 rfl) rfl rfl rfl ?_
    refine mx_callV yX3_isAhead m_X3_isAhead [.int v2, .int (mx_I M (a + 1) v5.toNatClampNeg), .int v3] mm_X3_isAhead ml_RX5_31 im_X3_isAhead se_X3_isAhead (tp_s T 24 rfl) rfl rfl (Nat.le_of_ble_eq_true rfl) (mx_da t_X5_countAhead 15 rfl) rfl (Nat.le_of_ble_eq_true rfl) rfl ?_
    refine mx_mono h ?_
    intro o M1 ho
    obtain ⟨e1, e2, ho⟩ := ho
    obtain ⟨x2, rfl, h⟩ := ho
    refine ⟨e1, ?_⟩
    have T := tp_of e1 e2 T
    clear e1 e2
    show mx_W m_X5_countAhead (d + 1) 28 [.ref a, .ref 24, .int v2, .int v3, .int v4, .int v5] [.int (mx_b x2)] M1 Q
    refine mx_if_eq 34 (mx_da t_X5_countAhead 16 rfl) rfl rfl (fun g9 => ?_) (fun g9 => ?_)
    · have h := h.1 (mx_b0.mp g9)
      refine mx_iinc 5 (v := v5 + 1) [.ref a, .ref 24, .int v2, .int v3, .int v4, .int (v5 + 1)] (mx_da t_X5_countAhead 18 rfl) rfl (by decide) rfl rfl rfl ?_
      refine mx_goto (n := 6) (mx_da t_X5_countAhead 19 rfl) rfl ?_
      exact h
    · have h := h.2 (mx_bn.mp g9)
      refine mx_iinc 4 (v := v4 + 1) [.ref a, .ref 24, .int v2, .int v3, .int (v4 + 1), .int v5] (mx_da t_X5_countAhead 17 rfl) rfl (by decide) rfl rfl rfl ?_
      refine mx_iinc 5 (v := v5 + 1) [.ref a, .ref 24, .int v2, .int v3, .int (v4 + 1), .int (v5 + 1)] (mx_da t_X5_countAhead 18 rfl) rfl (by decide) rfl rfl rfl ?_
      refine mx_goto (n := 6) (mx_da t_X5_countAhead 19 rfl) rfl ?_
      exact h
set_option maxHeartbeats 1000000 in
theorem x_X5_wrongBy_0 {d : Nat} {M : mx_M} {Q : mx_O → mx_M → Prop} (T : mx_Tp M) (a : Nat) (ha : mx_Row a) (v2 : Int32)
    (h : mx_W m_X5_wrongBy (d + 1) 5 [.ref a, .ref 24, .int v2, .int 0, .int 0, .retAddr 0] [] M Q) :
    mx_W m_X5_wrongBy (d + 1) 0 [.ref a, .ref 24, .int v2, .retAddr 0, .retAddr 0, .retAddr 0] [] M Q := by
  refine mx_iconst (v := 0) (mx_da t_X5_wrongBy 0 rfl) rfl rfl ?_
  refine mx_istore_n 3 [.ref a, .ref 24, .int v2, .int 0, .retAddr 0, .retAddr 0] (mx_da t_X5_wrongBy 1 rfl) rfl rfl (by decide) rfl ?_
  refine mx_iconst (v := 0) (mx_da t_X5_wrongBy 2 rfl) rfl rfl ?_
  refine mx_istore 4 [.ref a, .ref 24, .int v2, .int 0, .int 0, .retAddr 0] (mx_da t_X5_wrongBy 3 rfl) rfl (by decide) rfl ?_
  exact h
set_option maxHeartbeats 1000000 in
theorem x_X5_wrongBy_5 {d : Nat} {M : mx_M} {Q : mx_O → mx_M → Prop} (T : mx_Tp M) (a : Nat) (ha : mx_Row a) (v2 : Int32) (v3 : Int32) (v4 : Int32)
    (h : (((mx_I M a 1) ≤ v4 → Q (.inl (some (.int v3))) M) ∧ (¬ (mx_I M a 1) ≤ v4 → mx_W m_X5_wrongBy (d + 1) 20 [.ref a, .ref 24, .int v2, .int v3, .int v4, .int (v4 + 1)] [] M Q))) :
    mx_W m_X5_wrongBy (d + 1) 5 [.ref a, .ref 24, .int v2, .int v3, .int v4, .retAddr 0] [] M Q := by
  refine mx_iload 4 (mx_da t_X5_wrongBy 4 rfl) rfl rfl ?_
  refine mx_aload_n 0 (mx_da t_X5_wrongBy 5 rfl) rfl rfl rfl rfl ?_
  refine mx_getI fs_RX5_15 rfl (row_s T ha) (mx_da t_X5_wrongBy 6 rfl) rfl ?_
  refine mx_icmp_ge 66 (mx_da t_X5_wrongBy 7 rfl) rfl rfl (fun g9 => ?_) (fun g9 => ?_)
  · have h := h.1 g9
    refine mx_iload_n 3 (mx_da t_X5_wrongBy 33 rfl) rfl rfl rfl ?_
    exact mx_iret rfl (mx_da t_X5_wrongBy 34 rfl) h
  · have h := h.2 g9
    refine mx_iload 4 (mx_da t_X5_wrongBy 8 rfl) rfl rfl ?_
    refine mx_iconst (v := 1) (mx_da t_X5_wrongBy 9 rfl) rfl rfl ?_
    refine mx_iadd (mx_da t_X5_wrongBy 10 rfl) rfl ?_
    refine mx_istore 5 [.ref a, .ref 24, .int v2, .int v3, .int v4, .int (v4 + 1)] (mx_da t_X5_wrongBy 11 rfl) rfl (by decide) rfl ?_
    exact h
set_option maxHeartbeats 1000000 in
theorem x_X5_wrongBy_20 {d : Nat} {M : mx_M} {Q : mx_O → mx_M → Prop} (T : mx_Tp M) (a : Nat) (ha : mx_Row a) (v2 : Int32) (v3 : Int32) (v4 : Int32) (v5 : Int32)
    (h : (((mx_I M a 1) ≤ v5 → mx_W m_X5_wrongBy (d + 1) 5 [.ref a, .ref 24, .int v2, .int v3, .int (v4 + 1), .retAddr 0] [] M Q) ∧ (¬ (mx_I M a 1) ≤ v5 → (vp_in v5 10 ∧ (vp_in v4 10 ∧ (mx_W m_X3_isAhead d 0 [.ref 24, .int v2, .int (mx_I M (a + 1) v5.toNatClampNeg), .int (mx_I M (a + 1) v4.toNatClampNeg)] [] M (fun o M1 => mx_sh M1 = mx_sh M ∧ mx_R M1 = mx_R M ∧ (∃ x2 : Bool, o = .inl (some (.int (mx_b x2))) ∧ ((x2 = false → mx_W m_X5_wrongBy (d + 1) 20 [.ref a, .ref 24, .int v2, .int v3, .int v4, .int (v5 + 1)] [] M1 Q) ∧ (x2 = true → mx_W m_X5_wrongBy (d + 1) 20 [.ref a, .ref 24, .int v2, .int (v3 + 1), .int v4, .int (v5 + 1)] [] M1 Q)))))))))) :
    mx_W m_X5_wrongBy (d + 1) 20 [.ref a, .ref 24, .int v2, .int v3, .int v4, .int v5] [] M Q := by
  refine mx_iload 5 (mx_da t_X5_wrongBy 12 rfl) rfl rfl ?_
  refine mx_aload_n 0 (mx_da t_X5_wrongBy 13 rfl) rfl rfl rfl rfl ?_
  refine mx_getI fs_RX5_15 rfl (row_s T ha) (mx_da t_X5_wrongBy 14 rfl) rfl ?_
  refine mx_icmp_ge 60 (mx_da t_X5_wrongBy 15 rfl) rfl rfl (fun g9 => ?_) (fun g9 => ?_)
  · have h := h.1 g9
    refine mx_iinc 4 (v := v4 + 1) [.ref a, .ref 24, .int v2, .int v3, .int (v4 + 1), .int v5] (mx_da t_X5_wrongBy 31 rfl) rfl (by decide) rfl rfl rfl ?_
    refine mx_goto (n := 5) (mx_da t_X5_wrongBy 32 rfl) rfl ?_
    exact mx_wkn [.ref a, .ref 24, .int v2, .int v3, .int (v4 + 1), .retAddr 0] ⟨Or.inr rfl, Or.inr rfl, Or.inr rfl, Or.inr rfl, Or.inr rfl, Or.inl rfl, trivial⟩ h
  · have h := h.2 g9
    refine mx_aload_n 1 (mx_da t_X5_wrongBy 16 rfl) rfl rfl rfl rfl ?_
    refine mx_iload_n 2 (mx_da t_X5_wrongBy 17 rfl) rfl rfl rfl ?_
    refine mx_aload_n 0 (mx_da t_X5_wrongBy 18 rfl) rfl rfl rfl rfl ?_
    refine mx_getR (a + 1) fs_RX5_9 rfl (row_s T ha) (row_r0 T ha) (mx_da t_X5_wrongBy 19 rfl) rfl ?_
    refine mx_iload 5 (mx_da t_X5_wrongBy 20 rfl) rfl rfl ?_
    refine mx_iald (row_a0 T ha) h.1 (mx_da t_X5_wrongBy 21 rfl) rfl ?_
    have h := h.2
    refine mx_aload_n 0 (mx_da t_X5_wrongBy 22 rfl) rfl rfl rfl rfl ?_
    refine mx_getR (a + 1) fs_RX5_9 rfl (row_s T ha) (row_r0 T ha) (mx_da t_X5_wrongBy 23 rfl) rfl ?_
    refine mx_iload 4 (mx_da t_X5_wrongBy 24 rfl) rfl rfl ?_
    refine mx_iald (row_a0 T ha) h.1 (mx_da t_X5_wrongBy 25 rfl) rfl ?_
    have h := h.2
    refine mx_callV yX3_isAhead m_X3_isAhead [.int v2, .int (mx_I M (a + 1) v5.toNatClampNeg), .int (mx_I M (a + 1) v4.toNatClampNeg)] mm_X3_isAhead ml_RX5_31 im_X3_isAhead se_X3_isAhead (tp_s T 24 rfl) rfl rfl (Nat.le_of_ble_eq_true rfl) (mx_da t_X5_wrongBy 26 rfl) rfl (Nat.le_of_ble_eq_true rfl) rfl ?_
    refine mx_mono h ?_
    intro o M1 ho
    obtain ⟨e1, e2, ho⟩ := ho
    obtain ⟨x2, rfl, h⟩ := ho
    refine ⟨e1, ?_⟩
    have T := tp_of e1 e2 T
    clear e1 e2
    show mx_W m_X5_wrongBy (d + 1) 48 [.ref a, .ref 24, .int v2, .int v3, .int v4, .int v5] [.int (mx_b x2)] M1 Q
    refine mx_if_eq 54 (mx_da t_X5_wrongBy 27 rfl) rfl rfl (fun g9 => ?_) (fun g9 => ?_)
    · have h := h.1 (mx_b0.mp g9)
      refine mx_iinc 5 (v := v5 + 1) [.ref a, .ref 24, .int v2, .int v3, .int v4, .int (v5 + 1)] (mx_da t_X5_wrongBy 29 rfl) rfl (by decide) rfl rfl rfl ?_
      refine mx_goto (n := 20) (mx_da t_X5_wrongBy 30 rfl) rfl ?_
      exact h
    · have h := h.2 (mx_bn.mp g9)
      refine mx_iinc 3 (v := v3 + 1) [.ref a, .ref 24, .int v2, .int (v3 + 1), .int v4, .int v5] (mx_da t_X5_wrongBy 28 rfl) rfl (by decide) rfl rfl rfl ?_
      refine mx_iinc 5 (v := v5 + 1) [.ref a, .ref 24, .int v2, .int (v3 + 1), .int v4, .int (v5 + 1)] (mx_da t_X5_wrongBy 29 rfl) rfl (by decide) rfl rfl rfl ?_
      refine mx_goto (n := 20) (mx_da t_X5_wrongBy 30 rfl) rfl ?_
      exact h
set_option maxHeartbeats 1000000 in
theorem x_X5_wrongWith_0 {d : Nat} {M : mx_M} {Q : mx_O → mx_M → Prop} (T : mx_Tp M) (a : Nat) (ha : mx_Row a) (v2 : Int32) (v3 : Int32)
    (h : (mx_W m_X5_placeOf d 0 [.ref a, .int v3, .retAddr 0] [] M (fun o M1 => mx_sh M1 = mx_sh M ∧ mx_R M1 = mx_R M ∧ (∃ x2 : Int32, o = .inl (some (.int x2)) ∧ mx_W m_X5_wrongWith (d + 1) 13 [.ref a, .ref 24, .int v2, .int v3, .int 0, .int x2, .int 0] [] M1 Q)))) :
    mx_W m_X5_wrongWith (d + 1) 0 [.ref a, .ref 24, .int v2, .int v3, .retAddr 0, .retAddr 0, .retAddr 0] [] M Q := by
  refine mx_iconst (v := 0) (mx_da t_X5_wrongWith 0 rfl) rfl rfl ?_
  refine mx_istore 4 [.ref a, .ref 24, .int v2, .int v3, .int 0, .retAddr 0, .retAddr 0] (mx_da t_X5_wrongWith 1 rfl) rfl (by decide) rfl ?_
  refine mx_aload_n 0 (mx_da t_X5_wrongWith 2 rfl) rfl rfl rfl rfl ?_
  refine mx_iload_n 3 (mx_da t_X5_wrongWith 3 rfl) rfl rfl rfl ?_
  refine mx_callV yX5_placeOf m_X5_placeOf [.int v3] mm_X5_placeOf ml_RX5_37 im_X5_placeOf se_X5_placeOf (row_s T ha) rfl rfl (Nat.le_of_ble_eq_true rfl) (mx_da t_X5_wrongWith 4 rfl) rfl (Nat.le_of_ble_eq_true rfl) rfl ?_
  refine mx_mono h ?_
  intro o M1 ho
  obtain ⟨e1, e2, ho⟩ := ho
  obtain ⟨x2, rfl, h⟩ := ho
  refine ⟨e1, ?_⟩
  have T := tp_of e1 e2 T
  clear e1 e2
  show mx_W m_X5_wrongWith (d + 1) 8 [.ref a, .ref 24, .int v2, .int v3, .int 0, .retAddr 0, .retAddr 0] [.int x2] M1 Q
  refine mx_istore 5 [.ref a, .ref 24, .int v2, .int v3, .int 0, .int x2, .retAddr 0] (mx_da t_X5_wrongWith 5 rfl) rfl (by decide) rfl ?_
  refine mx_iconst (v := 0) (mx_da t_X5_wrongWith 6 rfl) rfl rfl ?_
  refine mx_istore 6 [.ref a, .ref 24, .int v2, .int v3, .int 0, .int x2, .int 0] (mx_da t_X5_wrongWith 7 rfl) rfl (by decide) rfl ?_
  exact h
set_option maxHeartbeats 1000000 in
theorem x_X5_wrongWith_13 {d : Nat} {M : mx_M} {Q : mx_O → mx_M → Prop} (T : mx_Tp M) (a : Nat) (ha : mx_Row a) (v2 : Int32) (v3 : Int32) (v4 : Int32) (v5 : Int32) (v6 : Int32)
    (h : (((mx_I M a 1) ≤ v6 → Q (.inl (some (.int v4))) M) ∧ (¬ (mx_I M a 1) ≤ v6 → ((v6 = v5 → mx_W m_X5_wrongWith (d + 1) 13 [.ref a, .ref 24, .int v2, .int v3, .int v4, .int v5, .int (v6 + 1)] [] M Q) ∧ (¬ v6 = v5 → ((v5 ≤ v6 → (vp_in v6 10 ∧ (mx_W m_X3_isAhead d 0 [.ref 24, .int v2, .int (mx_I M (a + 1) v6.toNatClampNeg), .int v3] [] M (fun o M1 => mx_sh M1 = mx_sh M ∧ mx_R M1 = mx_R M ∧ (∃ x2 : Bool, o = .inl (some (.int (mx_b x2))) ∧ (((0 : Int32) = (mx_b x2) → mx_W m_X5_wrongWith (d + 1) 13 [.ref a, .ref 24, .int v2, .int v3, .int v4, .int v5, .int (v6 + 1)] [] M1 Q) ∧ (¬ (0 : Int32) = (mx_b x2) → mx_W m_X5_wrongWith (d + 1) 13 [.ref a, .ref 24, .int v2, .int v3, .int (v4 + 1), .int v5, .int (v6 + 1)] [] M1 Q))))))) ∧ (¬ v5 ≤ v6 → (vp_in v6 10 ∧ (mx_W m_X3_isAhead d 0 [.ref 24, .int v2, .int (mx_I M (a + 1) v6.toNatClampNeg), .int v3] [] M (fun o M3 => mx_sh M3 = mx_sh M ∧ mx_R M3 = mx_R M ∧ (∃ x4 : Bool, o = .inl (some (.int (mx_b x4))) ∧ (((1 : Int32) = (mx_b x4) → mx_W m_X5_wrongWith (d + 1) 13 [.ref a, .ref 24, .int v2, .int v3, .int v4, .int v5, .int (v6 + 1)] [] M3 Q) ∧ (¬ (1 : Int32) = (mx_b x4) → mx_W m_X5_wrongWith (d + 1) 13 [.ref a, .ref 24, .int v2, .int v3, .int (v4 + 1), .int v5, .int (v6 + 1)] [] M3 Q))))))))))))) :
    mx_W m_X5_wrongWith (d + 1) 13 [.ref a, .ref 24, .int v2, .int v3, .int v4, .int v5, .int v6] [] M Q := by
  refine mx_iload 6 (mx_da t_X5_wrongWith 8 rfl) rfl rfl ?_
  refine mx_aload_n 0 (mx_da t_X5_wrongWith 9 rfl) rfl rfl rfl rfl ?_
  refine mx_getI fs_RX5_15 rfl (row_s T ha) (mx_da t_X5_wrongWith 10 rfl) rfl ?_
  refine mx_icmp_ge 66 (mx_da t_X5_wrongWith 11 rfl) rfl rfl (fun g9 => ?_) (fun g9 => ?_)
  · have h := h.1 g9
    refine mx_iload 4 (mx_da t_X5_wrongWith 33 rfl) rfl rfl ?_
    exact mx_iret rfl (mx_da t_X5_wrongWith 34 rfl) h
  · have h := h.2 g9
    refine mx_iload 6 (mx_da t_X5_wrongWith 12 rfl) rfl rfl ?_
    refine mx_iload 5 (mx_da t_X5_wrongWith 13 rfl) rfl rfl ?_
    refine mx_icmp_eq 60 (mx_da t_X5_wrongWith 14 rfl) rfl rfl (fun g9 => ?_) (fun g9 => ?_)
    · have h := h.1 g9
      refine mx_iinc 6 (v := v6 + 1) [.ref a, .ref 24, .int v2, .int v3, .int v4, .int v5, .int (v6 + 1)] (mx_da t_X5_wrongWith 31 rfl) rfl (by decide) rfl rfl rfl ?_
      refine mx_goto (n := 13) (mx_da t_X5_wrongWith 32 rfl) rfl ?_
      exact h
    · have h := h.2 g9
      refine mx_iload 6 (mx_da t_X5_wrongWith 15 rfl) rfl rfl ?_
      refine mx_iload 5 (mx_da t_X5_wrongWith 16 rfl) rfl rfl ?_
      refine mx_icmp_ge 40 (mx_da t_X5_wrongWith 17 rfl) rfl rfl (fun g9 => ?_) (fun g9 => ?_)
      · have h := h.1 g9
        refine mx_iconst (v := 0) (mx_da t_X5_wrongWith 20 rfl) rfl rfl ?_
        refine mx_aload_n 1 (mx_da t_X5_wrongWith 21 rfl) rfl rfl rfl rfl ?_
        refine mx_iload_n 2 (mx_da t_X5_wrongWith 22 rfl) rfl rfl rfl ?_
        refine mx_aload_n 0 (mx_da t_X5_wrongWith 23 rfl) rfl rfl rfl rfl ?_
        refine mx_getR (a + 1) fs_RX5_9 rfl (row_s T ha) (row_r0 T ha) (mx_da t_X5_wrongWith 24 rfl) rfl ?_
        refine mx_iload 6 (mx_da t_X5_wrongWith 25 rfl) rfl rfl ?_
        refine mx_iald (row_a0 T ha) h.1 (mx_da t_X5_wrongWith 26 rfl) rfl ?_
        have h := h.2
        refine mx_iload_n 3 (mx_da t_X5_wrongWith 27 rfl) rfl rfl rfl ?_
        refine mx_callV yX3_isAhead m_X3_isAhead [.int v2, .int (mx_I M (a + 1) v6.toNatClampNeg), .int v3] mm_X3_isAhead ml_RX5_31 im_X3_isAhead se_X3_isAhead (tp_s T 24 rfl) rfl rfl (Nat.le_of_ble_eq_true rfl) (mx_da t_X5_wrongWith 28 rfl) rfl (Nat.le_of_ble_eq_true rfl) rfl ?_
        refine mx_mono h ?_
        intro o M1 ho
        obtain ⟨e1, e2, ho⟩ := ho
        obtain ⟨x2, rfl, h⟩ := ho
        refine ⟨e1, ?_⟩
        have T := tp_of e1 e2 T
        clear e1 e2
        show mx_W m_X5_wrongWith (d + 1) 54 [.ref a, .ref 24, .int v2, .int v3, .int v4, .int v5, .int v6] [.int (mx_b x2), .int 0] M1 Q
        refine mx_icmp_eq 60 (mx_da t_X5_wrongWith 29 rfl) rfl rfl (fun g9 => ?_) (fun g9 => ?_)
        · have h := h.1 g9
          refine mx_iinc 6 (v := v6 + 1) [.ref a, .ref 24, .int v2, .int v3, .int v4, .int v5, .int (v6 + 1)] (mx_da t_X5_wrongWith 31 rfl) rfl (by decide) rfl rfl rfl ?_
          refine mx_goto (n := 13) (mx_da t_X5_wrongWith 32 rfl) rfl ?_
          exact h
        · have h := h.2 g9
          refine mx_iinc 4 (v := v4 + 1) [.ref a, .ref 24, .int v2, .int v3, .int (v4 + 1), .int v5, .int v6] (mx_da t_X5_wrongWith 30 rfl) rfl (by decide) rfl rfl rfl ?_
          refine mx_iinc 6 (v := v6 + 1) [.ref a, .ref 24, .int v2, .int v3, .int (v4 + 1), .int v5, .int (v6 + 1)] (mx_da t_X5_wrongWith 31 rfl) rfl (by decide) rfl rfl rfl ?_
          refine mx_goto (n := 13) (mx_da t_X5_wrongWith 32 rfl) rfl ?_
          exact h
      · have h := h.2 g9
        refine mx_iconst (v := 1) (mx_da t_X5_wrongWith 18 rfl) rfl rfl ?_
        refine mx_goto (n := 41) (mx_da t_X5_wrongWith 19 rfl) rfl ?_
        refine mx_aload_n 1 (mx_da t_X5_wrongWith 21 rfl) rfl rfl rfl rfl ?_
        refine mx_iload_n 2 (mx_da t_X5_wrongWith 22 rfl) rfl rfl rfl ?_
        refine mx_aload_n 0 (mx_da t_X5_wrongWith 23 rfl) rfl rfl rfl rfl ?_
        refine mx_getR (a + 1) fs_RX5_9 rfl (row_s T ha) (row_r0 T ha) (mx_da t_X5_wrongWith 24 rfl) rfl ?_
        refine mx_iload 6 (mx_da t_X5_wrongWith 25 rfl) rfl rfl ?_
        refine mx_iald (row_a0 T ha) h.1 (mx_da t_X5_wrongWith 26 rfl) rfl ?_
        have h := h.2
        refine mx_iload_n 3 (mx_da t_X5_wrongWith 27 rfl) rfl rfl rfl ?_
        refine mx_callV yX3_isAhead m_X3_isAhead [.int v2, .int (mx_I M (a + 1) v6.toNatClampNeg), .int v3] mm_X3_isAhead ml_RX5_31 im_X3_isAhead se_X3_isAhead (tp_s T 24 rfl) rfl rfl (Nat.le_of_ble_eq_true rfl) (mx_da t_X5_wrongWith 28 rfl) rfl (Nat.le_of_ble_eq_true rfl) rfl ?_
        refine mx_mono h ?_
        intro o M3 ho
        obtain ⟨e1, e2, ho⟩ := ho
        obtain ⟨x4, rfl, h⟩ := ho
        refine ⟨e1, ?_⟩
        have T := tp_of e1 e2 T
        clear e1 e2
        show mx_W m_X5_wrongWith (d + 1) 54 [.ref a, .ref 24, .int v2, .int v3, .int v4, .int v5, .int v6] [.int (mx_b x4), .int 1] M3 Q
        refine mx_icmp_eq 60 (mx_da t_X5_wrongWith 29 rfl) rfl rfl (fun g9 => ?_) (fun g9 => ?_)
        · have h := h.1 g9
          refine mx_iinc 6 (v := v6 + 1) [.ref a, .ref 24, .int v2, .int v3, .int v4, .int v5, .int (v6 + 1)] (mx_da t_X5_wrongWith 31 rfl) rfl (by decide) rfl rfl rfl ?_
          refine mx_goto (n := 13) (mx_da t_X5_wrongWith 32 rfl) rfl ?_
          exact h
        · have h := h.2 g9
          refine mx_iinc 4 (v := v4 + 1) [.ref a, .ref 24, .int v2, .int v3, .int (v4 + 1), .int v5, .int v6] (mx_da t_X5_wrongWith 30 rfl) rfl (by decide) rfl rfl rfl ?_
          refine mx_iinc 6 (v := v6 + 1) [.ref a, .ref 24, .int v2, .int v3, .int (v4 + 1), .int v5, .int (v6 + 1)] (mx_da t_X5_wrongWith 31 rfl) rfl (by decide) rfl rfl rfl ?_
          refine mx_goto (n := 13) (mx_da t_X5_wrongWith 32 rfl) rfl ?_
          exact h
set_option maxHeartbeats 1000000 in
theorem x_X5_looksFor_0 {d : Nat} {M : mx_M} {Q : mx_O → mx_M → Prop} (T : mx_Tp M) (a : Nat) (ha : mx_Row a) (v2 : Int32) (v3 : Int32)
    (h : (mx_W m_X5_lookFor d 0 [.ref a, .ref 24, .int v2, .int v3, .retAddr 0, .retAddr 0, .retAddr 0, .retAddr 0] [] M (fun o M1 => mx_sh M1 = mx_sh M ∧ mx_R M1 = mx_R M ∧ (∃ x2 : Int32, o = .inl (some (.int x2)) ∧ Q (.inl (some (.int ((x2 : Int32) / 2)))) M1)))) :
    mx_W m_X5_looksFor (d + 1) 0 [.ref a, .ref 24, .int v2, .int v3] [] M Q := by
  refine mx_aload_n 0 (mx_da t_X5_looksFor 0 rfl) rfl rfl rfl rfl ?_
  refine mx_aload_n 1 (mx_da t_X5_looksFor 1 rfl) rfl rfl rfl rfl ?_
  refine mx_iload_n 2 (mx_da t_X5_looksFor 2 rfl) rfl rfl rfl ?_
  refine mx_iload_n 3 (mx_da t_X5_looksFor 3 rfl) rfl rfl rfl ?_
  refine mx_callV yX5_lookFor m_X5_lookFor [.ref 24, .int v2, .int v3] mm_X5_lookFor ml_RX5_41 im_X5_lookFor se_X5_lookFor (row_s T ha) rfl rfl (Nat.le_of_ble_eq_true rfl) (mx_da t_X5_looksFor 4 rfl) rfl (Nat.le_of_ble_eq_true rfl) rfl ?_
  refine mx_mono h ?_
  intro o M1 ho
  obtain ⟨e1, e2, ho⟩ := ho
  obtain ⟨x2, rfl, h⟩ := ho
  refine ⟨e1, ?_⟩
  have T := tp_of e1 e2 T
  clear e1 e2
  show mx_W m_X5_looksFor (d + 1) 7 [.ref a, .ref 24, .int v2, .int v3] [.int x2] M1 Q
  refine mx_iconst (v := 2) (mx_da t_X5_looksFor 5 rfl) rfl rfl ?_
  refine mx_idiv (mx_da t_X5_looksFor 6 rfl) rfl (by decide) ?_
  exact mx_iret rfl (mx_da t_X5_looksFor 7 rfl) h
set_option maxHeartbeats 1000000 in
theorem x_X5_finds_0 {d : Nat} {M : mx_M} {Q : mx_O → mx_M → Prop} (T : mx_Tp M) (a : Nat) (ha : mx_Row a) (v2 : Int32) (v3 : Int32)
    (h : (mx_W m_X5_lookFor d 0 [.ref a, .ref 24, .int v2, .int v3, .retAddr 0, .retAddr 0, .retAddr 0, .retAddr 0] [] M (fun o M1 => mx_sh M1 = mx_sh M ∧ mx_R M1 = mx_R M ∧ (∃ x2 : Int32, o = .inl (some (.int x2)) ∧ ((¬ ((x2 : Int32) - (x2 : Int32) / 2 * 2) = (1 : Int32) → Q (.inl (some (.int (mx_b false)))) M1) ∧ (((x2 : Int32) - (x2 : Int32) / 2 * 2) = (1 : Int32) → Q (.inl (some (.int (mx_b true)))) M1)))))) :
    mx_W m_X5_finds (d + 1) 0 [.ref a, .ref 24, .int v2, .int v3] [] M Q := by
  refine mx_aload_n 0 (mx_da t_X5_finds 0 rfl) rfl rfl rfl rfl ?_
  refine mx_aload_n 1 (mx_da t_X5_finds 1 rfl) rfl rfl rfl rfl ?_
  refine mx_iload_n 2 (mx_da t_X5_finds 2 rfl) rfl rfl rfl ?_
  refine mx_iload_n 3 (mx_da t_X5_finds 3 rfl) rfl rfl rfl ?_
  refine mx_callV yX5_lookFor m_X5_lookFor [.ref 24, .int v2, .int v3] mm_X5_lookFor ml_RX5_41 im_X5_lookFor se_X5_lookFor (row_s T ha) rfl rfl (Nat.le_of_ble_eq_true rfl) (mx_da t_X5_finds 4 rfl) rfl (Nat.le_of_ble_eq_true rfl) rfl ?_
  refine mx_mono h ?_
  intro o M1 ho
  obtain ⟨e1, e2, ho⟩ := ho
  obtain ⟨x2, rfl, h⟩ := ho
  refine ⟨e1, ?_⟩
  have T := tp_of e1 e2 T
  clear e1 e2
  show mx_W m_X5_finds (d + 1) 7 [.ref a, .ref 24, .int v2, .int v3] [.int x2] M1 Q
  refine mx_iconst (v := 2) (mx_da t_X5_finds 5 rfl) rfl rfl ?_
  refine mx_irem (mx_da t_X5_finds 6 rfl) rfl (by decide) ?_
  refine mx_iconst (v := 1) (mx_da t_X5_finds 7 rfl) rfl rfl ?_
  refine mx_icmp_ne 17 (mx_da t_X5_finds 8 rfl) rfl rfl (fun g9 => ?_) (fun g9 => ?_)
  · have h := h.1 g9
    refine mx_iconst (v := 0) (mx_da t_X5_finds 11 rfl) rfl rfl ?_
    exact mx_zret rfl rfl (mx_da t_X5_finds 12 rfl) h
  · have h := h.2 g9
    refine mx_iconst (v := 1) (mx_da t_X5_finds 9 rfl) rfl rfl ?_
    refine mx_goto (n := 18) (mx_da t_X5_finds 10 rfl) rfl ?_
    exact mx_zret rfl rfl (mx_da t_X5_finds 12 rfl) h
set_option maxHeartbeats 1000000 in
theorem x_X5_lookFor_0 {d : Nat} {M : mx_M} {Q : mx_O → mx_M → Prop} (T : mx_Tp M) (a : Nat) (ha : mx_Row a) (v2 : Int32) (v3 : Int32)
    (h : mx_W m_X5_lookFor (d + 1) 14 [.ref a, .ref 24, .int v2, .int v3, .int 0, .int ((mx_I M a 1) - 1), .int 0, .retAddr 0] [] M Q) :
    mx_W m_X5_lookFor (d + 1) 0 [.ref a, .ref 24, .int v2, .int v3, .retAddr 0, .retAddr 0, .retAddr 0, .retAddr 0] [] M Q := by
  refine mx_iconst (v := 0) (mx_da t_X5_lookFor 0 rfl) rfl rfl ?_
  refine mx_istore 4 [.ref a, .ref 24, .int v2, .int v3, .int 0, .retAddr 0, .retAddr 0, .retAddr 0] (mx_da t_X5_lookFor 1 rfl) rfl (by decide) rfl ?_
  refine mx_aload_n 0 (mx_da t_X5_lookFor 2 rfl) rfl rfl rfl rfl ?_
  refine mx_getI fs_RX5_15 rfl (row_s T ha) (mx_da t_X5_lookFor 3 rfl) rfl ?_
  refine mx_iconst (v := 1) (mx_da t_X5_lookFor 4 rfl) rfl rfl ?_
  refine mx_isub (mx_da t_X5_lookFor 5 rfl) rfl ?_
  refine mx_istore 5 [.ref a, .ref 24, .int v2, .int v3, .int 0, .int ((mx_I M a 1) - 1), .retAddr 0, .retAddr 0] (mx_da t_X5_lookFor 6 rfl) rfl (by decide) rfl ?_
  refine mx_iconst (v := 0) (mx_da t_X5_lookFor 7 rfl) rfl rfl ?_
  refine mx_istore 6 [.ref a, .ref 24, .int v2, .int v3, .int 0, .int ((mx_I M a 1) - 1), .int 0, .retAddr 0] (mx_da t_X5_lookFor 8 rfl) rfl (by decide) rfl ?_
  exact h
set_option maxHeartbeats 1000000 in
theorem x_X5_lookFor_14 {d : Nat} {M : mx_M} {Q : mx_O → mx_M → Prop} (T : mx_Tp M) (a : Nat) (ha : mx_Row a) (v2 : Int32) (v3 : Int32) (v4 : Int32) (v5 : Int32) (v6 : Int32)
    (h : (((10 : Int32) ≤ v6 → Q (.inl (some (.int (2 * v6)))) M) ∧ (¬ (10 : Int32) ≤ v6 → ((v5 < v4 → Q (.inl (some (.int (2 * v6)))) M) ∧ (¬ v5 < v4 → (vp_in ((v4 + v5 : Int32) / 2) 10 ∧ ((¬ (mx_I M (a + 1) ((v4 + v5 : Int32) / 2).toNatClampNeg) = v3 → (vp_in ((v4 + v5 : Int32) / 2) 10 ∧ (mx_W m_X3_isAhead d 0 [.ref 24, .int v2, .int v3, .int (mx_I M (a + 1) ((v4 + v5 : Int32) / 2).toNatClampNeg)] [] M (fun o M1 => mx_sh M1 = mx_sh M ∧ mx_R M1 = mx_R M ∧ (∃ x2 : Bool, o = .inl (some (.int (mx_b x2))) ∧ ((x2 = false → mx_W m_X5_lookFor (d + 1) 14 [.ref a, .ref 24, .int v2, .int v3, .int (((v4 + v5 : Int32) / 2) + 1), .int v5, .int (v6 + 1), .retAddr 0] [] M1 Q) ∧ (x2 = true → mx_W m_X5_lookFor (d + 1) 14 [.ref a, .ref 24, .int v2, .int v3, .int v4, .int (((v4 + v5 : Int32) / 2) - 1), .int (v6 + 1), .retAddr 0] [] M1 Q))))))) ∧ ((mx_I M (a + 1) ((v4 + v5 : Int32) / 2).toNatClampNeg) = v3 → Q (.inl (some (.int ((2 * (v6 + 1)) + 1)))) M)))))))) :
    mx_W m_X5_lookFor (d + 1) 14 [.ref a, .ref 24, .int v2, .int v3, .int v4, .int v5, .int v6, .retAddr 0] [] M Q := by
  refine mx_iload 6 (mx_da t_X5_lookFor 9 rfl) rfl rfl ?_
  refine mx_bipush (v := 10) (mx_da t_X5_lookFor 10 rfl) rfl rfl ?_
  refine mx_icmp_ge 92 (mx_da t_X5_lookFor 11 rfl) rfl rfl (fun g9 => ?_) (fun g9 => ?_)
  · have h := h.1 g9
    refine mx_iconst (v := 2) (mx_da t_X5_lookFor 53 rfl) rfl rfl ?_
    refine mx_iload 6 (mx_da t_X5_lookFor 54 rfl) rfl rfl ?_
    refine mx_imul (mx_da t_X5_lookFor 55 rfl) rfl ?_
    exact mx_iret rfl (mx_da t_X5_lookFor 56 rfl) h
  · have h := h.2 g9
    refine mx_iload 4 (mx_da t_X5_lookFor 12 rfl) rfl rfl ?_
    refine mx_iload 5 (mx_da t_X5_lookFor 13 rfl) rfl rfl ?_
    refine mx_icmp_gt 92 (mx_da t_X5_lookFor 14 rfl) rfl rfl (fun g9 => ?_) (fun g9 => ?_)
    · have h := h.1 g9
      refine mx_iconst (v := 2) (mx_da t_X5_lookFor 53 rfl) rfl rfl ?_
      refine mx_iload 6 (mx_da t_X5_lookFor 54 rfl) rfl rfl ?_
      refine mx_imul (mx_da t_X5_lookFor 55 rfl) rfl ?_
      exact mx_iret rfl (mx_da t_X5_lookFor 56 rfl) h
    · have h := h.2 g9
      refine mx_iload 4 (mx_da t_X5_lookFor 15 rfl) rfl rfl ?_
      refine mx_iload 5 (mx_da t_X5_lookFor 16 rfl) rfl rfl ?_
      refine mx_iadd (mx_da t_X5_lookFor 17 rfl) rfl ?_
      refine mx_iconst (v := 2) (mx_da t_X5_lookFor 18 rfl) rfl rfl ?_
      refine mx_idiv (mx_da t_X5_lookFor 19 rfl) rfl (by decide) ?_
      refine mx_istore 7 [.ref a, .ref 24, .int v2, .int v3, .int v4, .int v5, .int v6, .int ((v4 + v5 : Int32) / 2)] (mx_da t_X5_lookFor 20 rfl) rfl (by decide) rfl ?_
      refine mx_iinc 6 (v := v6 + 1) [.ref a, .ref 24, .int v2, .int v3, .int v4, .int v5, .int (v6 + 1), .int ((v4 + v5 : Int32) / 2)] (mx_da t_X5_lookFor 21 rfl) rfl (by decide) rfl rfl rfl ?_
      refine mx_aload_n 0 (mx_da t_X5_lookFor 22 rfl) rfl rfl rfl rfl ?_
      refine mx_getR (a + 1) fs_RX5_9 rfl (row_s T ha) (row_r0 T ha) (mx_da t_X5_lookFor 23 rfl) rfl ?_
      refine mx_iload 7 (mx_da t_X5_lookFor 24 rfl) rfl rfl ?_
      refine mx_iald (row_a0 T ha) h.1 (mx_da t_X5_lookFor 25 rfl) rfl ?_
      have h := h.2
      refine mx_iload_n 3 (mx_da t_X5_lookFor 26 rfl) rfl rfl rfl ?_
      refine mx_icmp_ne 58 (mx_da t_X5_lookFor 27 rfl) rfl rfl (fun g9 => ?_) (fun g9 => ?_)
      · have h := h.1 g9
        refine mx_aload_n 1 (mx_da t_X5_lookFor 34 rfl) rfl rfl rfl rfl ?_
        refine mx_iload_n 2 (mx_da t_X5_lookFor 35 rfl) rfl rfl rfl ?_
        refine mx_iload_n 3 (mx_da t_X5_lookFor 36 rfl) rfl rfl rfl ?_
        refine mx_aload_n 0 (mx_da t_X5_lookFor 37 rfl) rfl rfl rfl rfl ?_
        refine mx_getR (a + 1) fs_RX5_9 rfl (row_s T ha) (row_r0 T ha) (mx_da t_X5_lookFor 38 rfl) rfl ?_
        refine mx_iload 7 (mx_da t_X5_lookFor 39 rfl) rfl rfl ?_
        refine mx_iald (row_a0 T ha) h.1 (mx_da t_X5_lookFor 40 rfl) rfl ?_
        have h := h.2
        refine mx_callV yX3_isAhead m_X3_isAhead [.int v2, .int v3, .int (mx_I M (a + 1) ((v4 + v5 : Int32) / 2).toNatClampNeg)] mm_X3_isAhead ml_RX5_31 im_X3_isAhead se_X3_isAhead (tp_s T 24 rfl) rfl rfl (Nat.le_of_ble_eq_true rfl) (mx_da t_X5_lookFor 41 rfl) rfl (Nat.le_of_ble_eq_true rfl) rfl ?_
        refine mx_mono h ?_
        intro o M1 ho
        obtain ⟨e1, e2, ho⟩ := ho
        obtain ⟨x2, rfl, h⟩ := ho
        refine ⟨e1, ?_⟩
        have T := tp_of e1 e2 T
        clear e1 e2
        show mx_W m_X5_lookFor (d + 1) 71 [.ref a, .ref 24, .int v2, .int v3, .int v4, .int v5, .int (v6 + 1), .int ((v4 + v5 : Int32) / 2)] [.int (mx_b x2)] M1 Q
        refine mx_if_eq 83 (mx_da t_X5_lookFor 42 rfl) rfl rfl (fun g9 => ?_) (fun g9 => ?_)
        · have h := h.1 (mx_b0.mp g9)
          refine mx_iload 7 (mx_da t_X5_lookFor 48 rfl) rfl rfl ?_
          refine mx_iconst (v := 1) (mx_da t_X5_lookFor 49 rfl) rfl rfl ?_
          refine mx_iadd (mx_da t_X5_lookFor 50 rfl) rfl ?_
          refine mx_istore 4 [.ref a, .ref 24, .int v2, .int v3, .int (((v4 + v5 : Int32) / 2) + 1), .int v5, .int (v6 + 1), .int ((v4 + v5 : Int32) / 2)] (mx_da t_X5_lookFor 51 rfl) rfl (by decide) rfl ?_
          refine mx_goto (n := 14) (mx_da t_X5_lookFor 52 rfl) rfl ?_
          exact mx_wkn [.ref a, .ref 24, .int v2, .int v3, .int (((v4 + v5 : Int32) / 2) + 1), .int v5, .int (v6 + 1), .retAddr 0] ⟨Or.inr rfl, Or.inr rfl, Or.inr rfl, Or.inr rfl, Or.inr rfl, Or.inr rfl, Or.inr rfl, Or.inl rfl, trivial⟩ h
        · have h := h.2 (mx_bn.mp g9)
          refine mx_iload 7 (mx_da t_X5_lookFor 43 rfl) rfl rfl ?_
          refine mx_iconst (v := 1) (mx_da t_X5_lookFor 44 rfl) rfl rfl ?_
          refine mx_isub (mx_da t_X5_lookFor 45 rfl) rfl ?_
          refine mx_istore 5 [.ref a, .ref 24, .int v2, .int v3, .int v4, .int (((v4 + v5 : Int32) / 2) - 1), .int (v6 + 1), .int ((v4 + v5 : Int32) / 2)] (mx_da t_X5_lookFor 46 rfl) rfl (by decide) rfl ?_
          refine mx_goto (n := 89) (mx_da t_X5_lookFor 47 rfl) rfl ?_
          refine mx_goto (n := 14) (mx_da t_X5_lookFor 52 rfl) rfl ?_
          exact mx_wkn [.ref a, .ref 24, .int v2, .int v3, .int v4, .int (((v4 + v5 : Int32) / 2) - 1), .int (v6 + 1), .retAddr 0] ⟨Or.inr rfl, Or.inr rfl, Or.inr rfl, Or.inr rfl, Or.inr rfl, Or.inr rfl, Or.inr rfl, Or.inl rfl, trivial⟩ h
      · have h := h.2 g9
        refine mx_iconst (v := 2) (mx_da t_X5_lookFor 28 rfl) rfl rfl ?_
        refine mx_iload 6 (mx_da t_X5_lookFor 29 rfl) rfl rfl ?_
        refine mx_imul (mx_da t_X5_lookFor 30 rfl) rfl ?_
        refine mx_iconst (v := 1) (mx_da t_X5_lookFor 31 rfl) rfl rfl ?_
        refine mx_iadd (mx_da t_X5_lookFor 32 rfl) rfl ?_
        exact mx_iret rfl (mx_da t_X5_lookFor 33 rfl) h
set_option maxHeartbeats 1000000 in
theorem x_X6_hasRoomFor_0 {d : Nat} {M : mx_M} {Q : mx_O → mx_M → Prop} (T : mx_Tp M) (v1 : Int32)
    (h : (((700 : Int32) < ((mx_I M 4 1) + v1) → Q (.inl (some (.int (mx_b false)))) M) ∧ (¬ (700 : Int32) < ((mx_I M 4 1) + v1) → Q (.inl (some (.int (mx_b true)))) M))) :
    mx_W m_X6_hasRoomFor d 0 [.ref 4, .int v1] [] M Q := by
  refine mx_aload_n 0 (mx_da t_X6_hasRoomFor 0 rfl) rfl rfl rfl rfl ?_
  refine mx_getI fs_RX6_15 rfl (tp_s T 4 rfl) (mx_da t_X6_hasRoomFor 1 rfl) rfl ?_
  refine mx_iload_n 1 (mx_da t_X6_hasRoomFor 2 rfl) rfl rfl rfl ?_
  refine mx_iadd (mx_da t_X6_hasRoomFor 3 rfl) rfl ?_
  refine mx_sipush (v := 700) (mx_da t_X6_hasRoomFor 4 rfl) rfl rfl ?_
  refine mx_icmp_gt 16 (mx_da t_X6_hasRoomFor 5 rfl) rfl rfl (fun g9 => ?_) (fun g9 => ?_)
  · have h := h.1 g9
    refine mx_iconst (v := 0) (mx_da t_X6_hasRoomFor 8 rfl) rfl rfl ?_
    exact mx_zret rfl rfl (mx_da t_X6_hasRoomFor 9 rfl) h
  · have h := h.2 g9
    refine mx_iconst (v := 1) (mx_da t_X6_hasRoomFor 6 rfl) rfl rfl ?_
    refine mx_goto (n := 17) (mx_da t_X6_hasRoomFor 7 rfl) rfl ?_
    exact mx_zret rfl rfl (mx_da t_X6_hasRoomFor 9 rfl) h
set_option maxHeartbeats 1000000 in
theorem x_X6_addNumber_0 {d : Nat} {M : mx_M} {Q : mx_O → mx_M → Prop} (T : mx_Tp M) (v1 : Int32)
    (h : mx_W m_X6_addNumber d 3 [.ref 4, .int v1, .int 24] [] M Q) :
    mx_W m_X6_addNumber d 0 [.ref 4, .int v1, .retAddr 0] [] M Q := by
  refine mx_bipush (v := 24) (mx_da t_X6_addNumber 0 rfl) rfl rfl ?_
  refine mx_istore_n 2 [.ref 4, .int v1, .int 24] (mx_da t_X6_addNumber 1 rfl) rfl rfl (by decide) rfl ?_
  exact h
set_option maxHeartbeats 1000000 in
theorem x_X6_addNumber_3 {d : Nat} {M : mx_M} {Q : mx_O → mx_M → Prop} (T : mx_Tp M) (v1 : Int32) (v2 : Int32)
    (h : ((v2 < 0 → Q (.inl none) M) ∧ (¬ v2 < 0 → (((700 : Int32) ≤ (mx_I M 4 1) → mx_W m_X6_addNumber d 3 [.ref 4, .int v1, .int (v2 + (-8))] [] M Q) ∧ (¬ (700 : Int32) ≤ (mx_I M 4 1) → (vp_in (mx_I M 4 1) 700 ∧ (∀ M1, M1 = mx_setI M 5 ((mx_I M 4 1).toNatClampNeg) (vp_nar .byte ((v1 >>> (v2 &&& 31)).toInt8.toInt32)) → (∀ M2, M2 = mx_setI M1 4 1 ((mx_I M1 4 1) + 1) → mx_W m_X6_addNumber d 3 [.ref 4, .int v1, .int (v2 + (-8))] [] M2 Q)))))))) :
    mx_W m_X6_addNumber d 3 [.ref 4, .int v1, .int v2] [] M Q := by
  refine mx_iload_n 2 (mx_da t_X6_addNumber 2 rfl) rfl rfl rfl ?_
  refine mx_if_lt 46 (mx_da t_X6_addNumber 3 rfl) rfl rfl (fun g9 => ?_) (fun g9 => ?_)
  · have h := h.1 g9
    exact mx_vret rfl (mx_da t_X6_addNumber 25 rfl) h
  · have h := h.2 g9
    refine mx_aload_n 0 (mx_da t_X6_addNumber 4 rfl) rfl rfl rfl rfl ?_
    refine mx_getI fs_RX6_15 rfl (tp_s T 4 rfl) (mx_da t_X6_addNumber 5 rfl) rfl ?_
    refine mx_sipush (v := 700) (mx_da t_X6_addNumber 6 rfl) rfl rfl ?_
    refine mx_icmp_ge 40 (mx_da t_X6_addNumber 7 rfl) rfl rfl (fun g9 => ?_) (fun g9 => ?_)
    · have h := h.1 g9
      refine mx_iinc 2 (v := v2 + (-8)) [.ref 4, .int v1, .int (v2 + (-8))] (mx_da t_X6_addNumber 23 rfl) rfl (by decide) rfl rfl rfl ?_
      refine mx_goto (n := 3) (mx_da t_X6_addNumber 24 rfl) rfl ?_
      exact h
    · have h := h.2 g9
      refine mx_aload_n 0 (mx_da t_X6_addNumber 8 rfl) rfl rfl rfl rfl ?_
      refine mx_getR 5 fs_RX6_9 rfl (tp_s T 4 rfl) (tp_r T 0 rfl) (mx_da t_X6_addNumber 9 rfl) rfl ?_
      refine mx_aload_n 0 (mx_da t_X6_addNumber 10 rfl) rfl rfl rfl rfl ?_
      refine mx_getI fs_RX6_15 rfl (tp_s T 4 rfl) (mx_da t_X6_addNumber 11 rfl) rfl ?_
      refine mx_iload_n 1 (mx_da t_X6_addNumber 12 rfl) rfl rfl rfl ?_
      refine mx_iload_n 2 (mx_da t_X6_addNumber 13 rfl) rfl rfl rfl ?_
      refine mx_ishr (mx_da t_X6_addNumber 14 rfl) rfl ?_
      refine mx_i2b (mx_da t_X6_addNumber 15 rfl) rfl ?_
      refine mx_bast (tp_s T 5 rfl) h.1 (mx_da t_X6_addNumber 16 rfl) rfl ?_
      have h := h.2
      refine mx_gen (mx_setI M 5 ((mx_I M 4 1).toNatClampNeg) (vp_nar .byte ((v1 >>> (v2 &&& 31)).toInt8.toInt32))) (fun M1 e9 => ?_)
      have h := h _ e9
      have T : mx_Tp M1 := tp_e e9 T
      refine mx_aload_n 0 (mx_da t_X6_addNumber 17 rfl) rfl rfl rfl rfl ?_
      refine mx_dup (mx_da t_X6_addNumber 18 rfl) rfl rfl ?_
      refine mx_getI fs_RX6_15 rfl (tp_s T 4 rfl) (mx_da t_X6_addNumber 19 rfl) rfl ?_
      refine mx_iconst (v := 1) (mx_da t_X6_addNumber 20 rfl) rfl rfl ?_
      refine mx_iadd (mx_da t_X6_addNumber 21 rfl) rfl ?_
      refine mx_putI fs_RX6_15 rfl (tp_s T 4 rfl) rfl rfl rfl (mx_da t_X6_addNumber 22 rfl) rfl ?_
      refine mx_gen (mx_setI M1 4 1 ((mx_I M1 4 1) + 1)) (fun M2 e9 => ?_)
      have h := h _ e9
      have T : mx_Tp M2 := tp_e e9 T
      refine mx_iinc 2 (v := v2 + (-8)) [.ref 4, .int v1, .int (v2 + (-8))] (mx_da t_X6_addNumber 23 rfl) rfl (by decide) rfl rfl rfl ?_
      refine mx_goto (n := 3) (mx_da t_X6_addNumber 24 rfl) rfl ?_
      exact h
set_option maxHeartbeats 1000000 in
theorem x_X6_signAt_0 {d : Nat} {M : mx_M} {Q : mx_O → mx_M → Prop} (T : mx_Tp M) (v1 : Int32)
    (h : ((v1 < 0 → Q (.inl (some (.int (-1)))) M) ∧ (¬ v1 < 0 → ((v1 < (mx_I M 4 1) → (vp_in v1 700 ∧ Q (.inl (some (.int ((mx_I M 5 v1.toNatClampNeg) &&& 255)))) M)) ∧ (¬ v1 < (mx_I M 4 1) → Q (.inl (some (.int (-1)))) M))))) :
    mx_W m_X6_signAt d 0 [.ref 4, .int v1] [] M Q := by
  refine mx_iload_n 1 (mx_da t_X6_signAt 0 rfl) rfl rfl rfl ?_
  refine mx_if_lt 12 (mx_da t_X6_signAt 1 rfl) rfl rfl (fun g9 => ?_) (fun g9 => ?_)
  · have h := h.1 g9
    refine mx_iconst (v := (-1)) (mx_da t_X6_signAt 6 rfl) rfl rfl ?_
    refine mx_goto (n := 26) (mx_da t_X6_signAt 7 rfl) rfl ?_
    exact mx_iret rfl (mx_da t_X6_signAt 14 rfl) h
  · have h := h.2 g9
    refine mx_iload_n 1 (mx_da t_X6_signAt 2 rfl) rfl rfl rfl ?_
    refine mx_aload_n 0 (mx_da t_X6_signAt 3 rfl) rfl rfl rfl rfl ?_
    refine mx_getI fs_RX6_15 rfl (tp_s T 4 rfl) (mx_da t_X6_signAt 4 rfl) rfl ?_
    refine mx_icmp_lt 16 (mx_da t_X6_signAt 5 rfl) rfl rfl (fun g9 => ?_) (fun g9 => ?_)
    · have h := h.1 g9
      refine mx_aload_n 0 (mx_da t_X6_signAt 8 rfl) rfl rfl rfl rfl ?_
      refine mx_getR 5 fs_RX6_9 rfl (tp_s T 4 rfl) (tp_r T 0 rfl) (mx_da t_X6_signAt 9 rfl) rfl ?_
      refine mx_iload_n 1 (mx_da t_X6_signAt 10 rfl) rfl rfl rfl ?_
      refine mx_bald (tp_s T 5 rfl) h.1 (mx_da t_X6_signAt 11 rfl) rfl ?_
      have h := h.2
      refine mx_sipush (v := 255) (mx_da t_X6_signAt 12 rfl) rfl rfl ?_
      refine mx_iand (mx_da t_X6_signAt 13 rfl) rfl ?_
      exact mx_iret rfl (mx_da t_X6_signAt 14 rfl) h
    · have h := h.2 g9
      refine mx_iconst (v := (-1)) (mx_da t_X6_signAt 6 rfl) rfl rfl ?_
      refine mx_goto (n := 26) (mx_da t_X6_signAt 7 rfl) rfl ?_
      exact mx_iret rfl (mx_da t_X6_signAt 14 rfl) h
set_option maxHeartbeats 1000000 in
theorem x_X9_withLetter_0 {d : Nat} {M : mx_M} {Q : mx_O → mx_M → Prop} (T : mx_Tp M) (v0 : Int64) (v2 : Int32) (v3 : Int32)
    (h : Q (.inl (some (.long (v0 ||| ((v3.toInt64) <<< ((35 - (5 * v2)).toInt64 &&& 63)))))) M) :
    mx_W m_X9_withLetter d 0 [.long v0, .retAddr 0, .int v2, .int v3] [] M Q := by
  refine mx_lload_n 0 (mx_da t_X9_withLetter 0 rfl) rfl rfl rfl ?_
  refine mx_iload_n 3 (mx_da t_X9_withLetter 1 rfl) rfl rfl rfl ?_
  refine mx_i2l (mx_da t_X9_withLetter 2 rfl) rfl ?_
  refine mx_bipush (v := 35) (mx_da t_X9_withLetter 3 rfl) rfl rfl ?_
  refine mx_iconst (v := 5) (mx_da t_X9_withLetter 4 rfl) rfl rfl ?_
  refine mx_iload_n 2 (mx_da t_X9_withLetter 5 rfl) rfl rfl rfl ?_
  refine mx_imul (mx_da t_X9_withLetter 6 rfl) rfl ?_
  refine mx_isub (mx_da t_X9_withLetter 7 rfl) rfl ?_
  refine mx_lshl (mx_da t_X9_withLetter 8 rfl) rfl ?_
  refine mx_lor (mx_da t_X9_withLetter 9 rfl) rfl ?_
  exact mx_lret rfl (mx_da t_X9_withLetter 10 rfl) h
set_option maxHeartbeats 1000000 in
theorem x_X9_letterAt_0 {d : Nat} {M : mx_M} {Q : mx_O → mx_M → Prop} (T : mx_Tp M) (v0 : Int64) (v2 : Int32)
    (h : Q (.inl (some (.int ((((v0.toUInt64 >>> ((35 - (5 * v2)).toInt64.toUInt64 &&& Int64.toUInt64 63)).toInt64).toInt32) &&& 31)))) M) :
    mx_W m_X9_letterAt d 0 [.long v0, .retAddr 0, .int v2] [] M Q := by
  refine mx_lload_n 0 (mx_da t_X9_letterAt 0 rfl) rfl rfl rfl ?_
  refine mx_bipush (v := 35) (mx_da t_X9_letterAt 1 rfl) rfl rfl ?_
  refine mx_iconst (v := 5) (mx_da t_X9_letterAt 2 rfl) rfl rfl ?_
  refine mx_iload_n 2 (mx_da t_X9_letterAt 3 rfl) rfl rfl rfl ?_
  refine mx_imul (mx_da t_X9_letterAt 4 rfl) rfl ?_
  refine mx_isub (mx_da t_X9_letterAt 5 rfl) rfl ?_
  refine mx_lushr (mx_da t_X9_letterAt 6 rfl) rfl ?_
  refine mx_l2i (mx_da t_X9_letterAt 7 rfl) rfl ?_
  refine mx_bipush (v := 31) (mx_da t_X9_letterAt 8 rfl) rfl rfl ?_
  refine mx_iand (mx_da t_X9_letterAt 9 rfl) rfl ?_
  exact mx_iret rfl (mx_da t_X9_letterAt 10 rfl) h
