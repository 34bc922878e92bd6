/-! the walks of the class (by tools/conf.py) -/
set_option maxHeartbeats 1000000 in
theorem x_X10_feed_0 {d : Nat} {M : mx_M} {Q : mx_O → mx_M → Prop} (T : mx_Tp M) (t : Nat) (ht : mx_Cat t) (ht0 : mx_R M 1 10 = t) (v1 : Int32) (v2 : Int32) (v3 : Int32) (v4 : Int32) (v5 : Int32)
    (h : (mx_W m_X6_hasRoomFor d 0 [.ref 4, .int 20] [] M (fun o M1 => mx_sh M1 = mx_sh M ∧ mx_R M1 = mx_R M ∧ (∃ x2 : Bool, o = .inl (some (.int (mx_b x2))) ∧ ((x2 = true → (mx_W m_X6_addNumber d 0 [.ref 4, .int v1, .retAddr 0] [] M1 (fun o M3 => mx_sh M3 = mx_sh M1 ∧ mx_R M3 = mx_R M1 ∧ (o = .inl none ∧ (mx_W m_X6_addNumber d 0 [.ref 4, .int v2, .retAddr 0] [] M3 (fun o M4 => mx_sh M4 = mx_sh M3 ∧ mx_R M4 = mx_R M3 ∧ (o = .inl none ∧ (mx_W m_X6_addNumber d 0 [.ref 4, .int v3, .retAddr 0] [] M4 (fun o M5 => mx_sh M5 = mx_sh M4 ∧ mx_R M5 = mx_R M4 ∧ (o = .inl none ∧ (mx_W m_X6_addNumber d 0 [.ref 4, .int v4, .retAddr 0] [] M5 (fun o M6 => mx_sh M6 = mx_sh M5 ∧ mx_R M6 = mx_R M5 ∧ (o = .inl none ∧ (mx_W m_X6_addNumber d 0 [.ref 4, .int v5, .retAddr 0] [] M6 (fun o M7 => mx_sh M7 = mx_sh M6 ∧ mx_R M7 = mx_R M6 ∧ (o = .inl none ∧ Q (.inl (some (.int (mx_I M7 4 1)))) M7)))))))))))))))) ∧ (x2 = false → Q (.inl (some (.int (-1)))) M1)))))) :
    mx_W m_X10_feed (d + 1) 0 [.ref 1, .int v1, .int v2, .int v3, .int v4, .int v5] [] M Q := by
  refine mx_aload_n 0 (mx_da t_X10_feed 0 rfl) rfl rfl rfl rfl ?_
  refine mx_getR 4 fs_RX10_26 rfl (tp_s T 1 rfl) (tp_r T 21 rfl) (mx_da t_X10_feed 1 rfl) rfl ?_
  refine mx_bipush (v := 20) (mx_da t_X10_feed 2 rfl) rfl rfl ?_
  refine mx_callV yX6_hasRoomFor m_X6_hasRoomFor [.int 20] mm_X6_hasRoomFor ml_RX10_96 im_X6_hasRoomFor se_X6_hasRoomFor (tp_s T 4 rfl) rfl rfl (Nat.le_of_ble_eq_true rfl) (mx_da t_X10_feed 3 rfl) rfl (Nat.le_of_ble_eq_true rfl) rfl ?_
  refine mx_mono h ?_
  intro o M1 ho
  obtain ⟨e1, e2, ho⟩ := ho
  obtain ⟨x2, rfl, h⟩ := ho
  refine ⟨e1, ?_⟩
  have T := tp_of e1 e2 T
  have ht0 := (congrFun (congrFun e2 1) 10).trans ht0
  clear e1 e2
  show mx_W m_X10_feed (d + 1) 9 [.ref 1, .int v1, .int v2, .int v3, .int v4, .int v5] [.int (mx_b x2)] M1 Q
  refine mx_if_ne 14 (mx_da t_X10_feed 4 rfl) rfl rfl (fun g9 => ?_) (fun g9 => ?_)
  · have h := h.1 (mx_bn.mp g9)
    refine mx_aload_n 0 (mx_da t_X10_feed 7 rfl) rfl rfl rfl rfl ?_
    refine mx_getR 4 fs_RX10_26 rfl (tp_s T 1 rfl) (tp_r T 21 rfl) (mx_da t_X10_feed 8 rfl) rfl ?_
    refine mx_iload_n 1 (mx_da t_X10_feed 9 rfl) rfl rfl rfl ?_
    refine mx_callV yX6_addNumber m_X6_addNumber [.int v1] mm_X6_addNumber ml_RX10_102 im_X6_addNumber se_X6_addNumber (tp_s T 4 rfl) rfl rfl (Nat.le_of_ble_eq_true rfl) (mx_da t_X10_feed 10 rfl) rfl (Nat.le_of_ble_eq_true rfl) rfl ?_
    refine mx_mono h ?_
    intro o M3 ho
    obtain ⟨e1, e2, ho⟩ := ho
    obtain ⟨rfl, h⟩ := ho
    refine ⟨e1, ?_⟩
    have T := tp_of e1 e2 T
    have ht0 := (congrFun (congrFun e2 1) 10).trans ht0
    clear e1 e2
    show mx_W m_X10_feed (d + 1) 22 [.ref 1, .int v1, .int v2, .int v3, .int v4, .int v5] [] M3 Q
    refine mx_aload_n 0 (mx_da t_X10_feed 11 rfl) rfl rfl rfl rfl ?_
    refine mx_getR 4 fs_RX10_26 rfl (tp_s T 1 rfl) (tp_r T 21 rfl) (mx_da t_X10_feed 12 rfl) rfl ?_
    refine mx_iload_n 2 (mx_da t_X10_feed 13 rfl) rfl rfl rfl ?_
    refine mx_callV yX6_addNumber m_X6_addNumber [.int v2] mm_X6_addNumber ml_RX10_102 im_X6_addNumber se_X6_addNumber (tp_s T 4 rfl) rfl rfl (Nat.le_of_ble_eq_true rfl) (mx_da t_X10_feed 14 rfl) rfl (Nat.le_of_ble_eq_true rfl) rfl ?_
    refine mx_mono h ?_
    intro o M4 ho
    obtain ⟨e1, e2, ho⟩ := ho
    obtain ⟨rfl, h⟩ := ho
    refine ⟨e1, ?_⟩
    have T := tp_of e1 e2 T
    have ht0 := (congrFun (congrFun e2 1) 10).trans ht0
    clear e1 e2
    show mx_W m_X10_feed (d + 1) 30 [.ref 1, .int v1, .int v2, .int v3, .int v4, .int v5] [] M4 Q
    refine mx_aload_n 0 (mx_da t_X10_feed 15 rfl) rfl rfl rfl rfl ?_
    refine mx_getR 4 fs_RX10_26 rfl (tp_s T 1 rfl) (tp_r T 21 rfl) (mx_da t_X10_feed 16 rfl) rfl ?_
    refine mx_iload_n 3 (mx_da t_X10_feed 17 rfl) rfl rfl rfl ?_
    refine mx_callV yX6_addNumber m_X6_addNumber [.int v3] mm_X6_addNumber ml_RX10_102 im_X6_addNumber se_X6_addNumber (tp_s T 4 rfl) rfl rfl (Nat.le_of_ble_eq_true rfl) (mx_da t_X10_feed 18 rfl) rfl (Nat.le_of_ble_eq_true rfl) rfl ?_
    refine mx_mono h ?_
    intro o M5 ho
    obtain ⟨e1, e2, ho⟩ := ho
    obtain ⟨rfl, h⟩ := ho
    refine ⟨e1, ?_⟩
    have T := tp_of e1 e2 T
    have ht0 := (congrFun (congrFun e2 1) 10).trans ht0
    clear e1 e2
    show mx_W m_X10_feed (d + 1) 38 [.ref 1, .int v1, .int v2, .int v3, .int v4, .int v5] [] M5 Q
    refine mx_aload_n 0 (mx_da t_X10_feed 19 rfl) rfl rfl rfl rfl ?_
    refine mx_getR 4 fs_RX10_26 rfl (tp_s T 1 rfl) (tp_r T 21 rfl) (mx_da t_X10_feed 20 rfl) rfl ?_
    refine mx_iload 4 (mx_da t_X10_feed 21 rfl) rfl rfl ?_
    refine mx_callV yX6_addNumber m_X6_addNumber [.int v4] mm_X6_addNumber ml_RX10_102 im_X6_addNumber se_X6_addNumber (tp_s T 4 rfl) rfl rfl (Nat.le_of_ble_eq_true rfl) (mx_da t_X10_feed 22 rfl) rfl (Nat.le_of_ble_eq_true rfl) rfl ?_
    refine mx_mono h ?_
    intro o M6 ho
    obtain ⟨e1, e2, ho⟩ := ho
    obtain ⟨rfl, h⟩ := ho
    refine ⟨e1, ?_⟩
    have T := tp_of e1 e2 T
    have ht0 := (congrFun (congrFun e2 1) 10).trans ht0
    clear e1 e2
    show mx_W m_X10_feed (d + 1) 47 [.ref 1, .int v1, .int v2, .int v3, .int v4, .int v5] [] M6 Q
    refine mx_aload_n 0 (mx_da t_X10_feed 23 rfl) rfl rfl rfl rfl ?_
    refine mx_getR 4 fs_RX10_26 rfl (tp_s T 1 rfl) (tp_r T 21 rfl) (mx_da t_X10_feed 24 rfl) rfl ?_
    refine mx_iload 5 (mx_da t_X10_feed 25 rfl) rfl rfl ?_
    refine mx_callV yX6_addNumber m_X6_addNumber [.int v5] mm_X6_addNumber ml_RX10_102 im_X6_addNumber se_X6_addNumber (tp_s T 4 rfl) rfl rfl (Nat.le_of_ble_eq_true rfl) (mx_da t_X10_feed 26 rfl) rfl (Nat.le_of_ble_eq_true rfl) rfl ?_
    refine mx_mono h ?_
    intro o M7 ho
    obtain ⟨e1, e2, ho⟩ := ho
    obtain ⟨rfl, h⟩ := ho
    refine ⟨e1, ?_⟩
    have T := tp_of e1 e2 T
    have ht0 := (congrFun (congrFun e2 1) 10).trans ht0
    clear e1 e2
    show mx_W m_X10_feed (d + 1) 56 [.ref 1, .int v1, .int v2, .int v3, .int v4, .int v5] [] M7 Q
    refine mx_aload_n 0 (mx_da t_X10_feed 27 rfl) rfl rfl rfl rfl ?_
    refine mx_getR 4 fs_RX10_26 rfl (tp_s T 1 rfl) (tp_r T 21 rfl) (mx_da t_X10_feed 28 rfl) rfl ?_
    refine mx_getI fs_RX10_106 rfl (tp_s T 4 rfl) (mx_da t_X10_feed 29 rfl) rfl ?_
    exact mx_iret rfl (mx_da t_X10_feed 30 rfl) h
  · have h := h.2 (mx_b0.mp g9)
    refine mx_iconst (v := (-1)) (mx_da t_X10_feed 5 rfl) rfl rfl ?_
    exact mx_iret rfl (mx_da t_X10_feed 6 rfl) h
set_option maxHeartbeats 1000000 in
theorem x_X10_catalogue_0 {d : Nat} {M : mx_M} {Q : mx_O → mx_M → Prop} (T : mx_Tp M) (t : Nat) (ht : mx_Cat t) (ht0 : mx_R M 1 10 = t) (u : Nat) (hu : mx_Cat u) (hu0 : mx_R M 2 2 = u) (v1 : Int32)
    (h : ((v1 < 0 → (1 ≤ (mx_rm M).1 ∧ 6 ≤ (mx_rm M).2 ∧ Q (.inr "java/lang/IllegalArgumentException") (mx_thM M))) ∧ (¬ v1 < 0 → ((v1 ≤ (mx_I M 4 1) → (mx_W m_X4_parse d 0 [.ref 2, .int v1, .retAddr 0] [] M (fun o M1 => mx_sh M1 = mx_sh M ∧ mx_R M1 = mx_R M ∧ (∃ x2 : Int32, o = .inl (some (.int x2)) ∧ (∀ M3, M3 = mx_setI M1 4 1 0 → (∀ M4, M4 = mx_setI M3 1 14 (mx_I M3 2 4) → ((¬ x2 = 0 → (∀ M5, M5 = mx_setI M4 1 15 ((mx_I M4 1 15) + 1) → Q (.inl (some (.int x2))) M5)) ∧ (x2 = 0 → (mx_W m_X4_handOver d 0 [.ref 2, .ref t, .retAddr 0] [] M4 (fun o M6 => mx_sh M6 = mx_sh M4 ∧ mx_R M6 = mx_up (mx_R M4) 2 2 t ∧ o = .inl (some (.ref u)) ∧ (∀ M7, M7 = mx_setR M6 1 10 u → (mx_W m_X10_beginAnew d 0 [.ref 1, .retAddr 0] [] M7 (fun o M8 => mx_sh M8 = mx_sh M7 ∧ mx_R M8 = mx_R M7 ∧ (o = .inl none ∧ Q (.inl (some (.int x2))) M8)))))))))))))) ∧ (¬ v1 ≤ (mx_I M 4 1) → (1 ≤ (mx_rm M).1 ∧ 6 ≤ (mx_rm M).2 ∧ Q (.inr "java/lang/IllegalArgumentException") (mx_thM M))))))) :
    mx_W m_X10_catalogue (d + 1) 0 [.ref 1, .int v1, .retAddr 0] [] M Q := by
  refine mx_iload_n 1 (mx_da t_X10_catalogue 0 rfl) rfl rfl rfl ?_
  refine mx_if_lt 15 (mx_da t_X10_catalogue 1 rfl) rfl rfl (fun g9 => ?_) (fun g9 => ?_)
  · have h := h.1 g9
    exact mx_throw "java/lang/IllegalArgumentException" 0 109 111 113 (by decide) rfl (by decide +kernel) cl_109 in_IAE th_113.1 th_113.2 (mx_da t_X10_catalogue 7 rfl) (mx_da t_X10_catalogue 8 rfl) (mx_da t_X10_catalogue 9 rfl) (mx_da t_X10_catalogue 10 rfl) (mx_da t_X10_catalogue 11 rfl) rfl (by decide) h.1 h.2.1 h.2.2
  · have h := h.2 g9
    refine mx_iload_n 1 (mx_da t_X10_catalogue 2 rfl) rfl rfl rfl ?_
    refine mx_aload_n 0 (mx_da t_X10_catalogue 3 rfl) rfl rfl rfl rfl ?_
    refine mx_getR 4 fs_RX10_26 rfl (tp_s T 1 rfl) (tp_r T 21 rfl) (mx_da t_X10_catalogue 4 rfl) rfl ?_
    refine mx_getI fs_RX10_106 rfl (tp_s T 4 rfl) (mx_da t_X10_catalogue 5 rfl) rfl ?_
    refine mx_icmp_le 25 (mx_da t_X10_catalogue 6 rfl) rfl rfl (fun g9 => ?_) (fun g9 => ?_)
    · have h := h.1 g9
      refine mx_aload_n 0 (mx_da t_X10_catalogue 12 rfl) rfl rfl rfl rfl ?_
      refine mx_getR 2 fs_RX10_10 rfl (tp_s T 1 rfl) (tp_r T 20 rfl) (mx_da t_X10_catalogue 13 rfl) rfl ?_
      refine mx_iload_n 1 (mx_da t_X10_catalogue 14 rfl) rfl rfl rfl ?_
      refine mx_callV yX4_parse m_X4_parse [.int v1] mm_X4_parse ml_RX10_116 im_X4_parse se_X4_parse (tp_s T 2 rfl) rfl rfl (Nat.le_of_ble_eq_true rfl) (mx_da t_X10_catalogue 15 rfl) rfl (Nat.le_of_ble_eq_true rfl) rfl ?_
      refine mx_mono h ?_
      intro o M1 ho
      obtain ⟨e1, e2, ho⟩ := ho
      obtain ⟨x2, rfl, h⟩ := ho
      refine ⟨e1, ?_⟩
      have T := tp_of e1 e2 T
      have ht0 := (congrFun (congrFun e2 1) 10).trans ht0
      have hu0 := (congrFun (congrFun e2 2) 2).trans hu0
      clear e1 e2
      show mx_W m_X10_catalogue (d + 1) 33 [.ref 1, .int v1, .retAddr 0] [.int x2] M1 Q
      refine mx_istore_n 2 [.ref 1, .int v1, .int x2] (mx_da t_X10_catalogue 16 rfl) rfl rfl (by decide) rfl ?_
      refine mx_aload_n 0 (mx_da t_X10_catalogue 17 rfl) rfl rfl rfl rfl ?_
      refine mx_getR 4 fs_RX10_26 rfl (tp_s T 1 rfl) (tp_r T 21 rfl) (mx_da t_X10_catalogue 18 rfl) rfl ?_
      refine mx_iconst (v := 0) (mx_da t_X10_catalogue 19 rfl) rfl rfl ?_
      refine mx_putI fs_RX10_106 rfl (tp_s T 4 rfl) rfl rfl rfl (mx_da t_X10_catalogue 20 rfl) rfl ?_
      refine mx_gen (mx_setI M1 4 1 0) (fun M3 e9 => ?_)
      have h := h _ e9
      have T : mx_Tp M3 := tp_e e9 T
      have ht0 : mx_R M3 1 10 = t := rr_e e9 ht0
      have hu0 : mx_R M3 2 2 = u := rr_e e9 hu0
      refine mx_aload_n 0 (mx_da t_X10_catalogue 21 rfl) rfl rfl rfl rfl ?_
      refine mx_aload_n 0 (mx_da t_X10_catalogue 22 rfl) rfl rfl rfl rfl ?_
      refine mx_getR 2 fs_RX10_10 rfl (tp_s T 1 rfl) (tp_r T 20 rfl) (mx_da t_X10_catalogue 23 rfl) rfl ?_
      refine mx_getI fs_RX10_120 rfl (tp_s T 2 rfl) (mx_da t_X10_catalogue 24 rfl) rfl ?_
      refine mx_putI fs_RX10_87 rfl (tp_s T 1 rfl) rfl rfl rfl (mx_da t_X10_catalogue 25 rfl) rfl ?_
      refine mx_gen (mx_setI M3 1 14 (mx_I M3 2 4)) (fun M4 e9 => ?_)
      have h := h _ e9
      have T : mx_Tp M4 := tp_e e9 T
      have ht0 : mx_R M4 1 10 = t := rr_e e9 ht0
      have hu0 : mx_R M4 2 2 = u := rr_e e9 hu0
      refine mx_iload_n 2 (mx_da t_X10_catalogue 26 rfl) rfl rfl rfl ?_
      refine mx_if_ne 79 (mx_da t_X10_catalogue 27 rfl) rfl rfl (fun g9 => ?_) (fun g9 => ?_)
      · have h := h.1 g9
        refine mx_aload_n 0 (mx_da t_X10_catalogue 38 rfl) rfl rfl rfl rfl ?_
        refine mx_dup (mx_da t_X10_catalogue 39 rfl) rfl rfl ?_
        refine mx_getI fs_RX10_90 rfl (tp_s T 1 rfl) (mx_da t_X10_catalogue 40 rfl) rfl ?_
        refine mx_iconst (v := 1) (mx_da t_X10_catalogue 41 rfl) rfl rfl ?_
        refine mx_iadd (mx_da t_X10_catalogue 42 rfl) rfl ?_
        refine mx_putI fs_RX10_90 rfl (tp_s T 1 rfl) rfl rfl rfl (mx_da t_X10_catalogue 43 rfl) rfl ?_
        refine mx_gen (mx_setI M4 1 15 ((mx_I M4 1 15) + 1)) (fun M5 e9 => ?_)
        have h := h _ e9
        have T : mx_Tp M5 := tp_e e9 T
        have ht0 : mx_R M5 1 10 = t := rr_e e9 ht0
        have hu0 : mx_R M5 2 2 = u := rr_e e9 hu0
        refine mx_iload_n 2 (mx_da t_X10_catalogue 44 rfl) rfl rfl rfl ?_
        exact mx_iret rfl (mx_da t_X10_catalogue 45 rfl) h
      · have h := h.2 g9
        refine mx_aload_n 0 (mx_da t_X10_catalogue 28 rfl) rfl rfl rfl rfl ?_
        refine mx_aload_n 0 (mx_da t_X10_catalogue 29 rfl) rfl rfl rfl rfl ?_
        refine mx_getR 2 fs_RX10_10 rfl (tp_s T 1 rfl) (tp_r T 20 rfl) (mx_da t_X10_catalogue 30 rfl) rfl ?_
        refine mx_aload_n 0 (mx_da t_X10_catalogue 31 rfl) rfl rfl rfl rfl ?_
        refine mx_getR t fs_RX10_71 rfl (tp_s T 1 rfl) ht0 (mx_da t_X10_catalogue 32 rfl) rfl ?_
        refine mx_callV yX4_handOver m_X4_handOver [.ref t] mm_X4_handOver ml_RX10_123 im_X4_handOver se_X4_handOver (tp_s T 2 rfl) rfl rfl (Nat.le_of_ble_eq_true rfl) (mx_da t_X10_catalogue 33 rfl) rfl (Nat.le_of_ble_eq_true rfl) rfl ?_
        refine mx_mono h ?_
        intro o M6 ho
        obtain ⟨e1, e2, rfl, h⟩ := ho
        refine ⟨e1, ?_⟩
        have T : mx_Tp M6 := tp_of (M := mx_setR M4 2 2 t) e1 e2 (tp_setR T rl_p2)
        have ht0 : mx_R M6 1 10 = t := (congrFun (congrFun e2 1) 10).trans ((congrFun (mx_up_off (mx_R M4) (k := 2) (j := 2) (a := 1) t (by decide)) _).trans ht0)
        have hu0 : mx_R M6 2 2 = t := (congrFun (congrFun e2 2) 2).trans (mx_up_eq (mx_R M4) 2 2 t)
        clear e1 e2
        show mx_W m_X10_catalogue (d + 1) 69 [.ref 1, .int v1, .int x2] [.ref u, .ref 1] M6 Q
        refine mx_putR (cat_le T hu) fs_RX10_71 rfl (tp_s T 1 rfl) rfl (mx_da t_X10_catalogue 34 rfl) rfl ?_
        have ht0 : mx_R (mx_setR M6 1 10 u) 1 10 = u := mx_up_eq (mx_R M6) 1 10 u
        have hu0 : mx_R (mx_setR M6 1 10 u) 2 2 = t := (congrFun (mx_up_off (mx_R M6) (k := 1) (j := 10) (a := 2) u (by decide)) _).trans hu0
        refine mx_gen (mx_setR M6 1 10 u) (fun M7 e9 => ?_)
        have h := h _ e9
        have T : mx_Tp M7 := tp_e e9 (tp_setR T rl_10)
        have ht0 : mx_R M7 1 10 = u := rr_e e9 ht0
        have hu0 : mx_R M7 2 2 = t := rr_e e9 hu0
        refine mx_aload_n 0 (mx_da t_X10_catalogue 35 rfl) rfl rfl rfl rfl ?_
        refine mx_callV yX10_beginAnew m_X10_beginAnew [] mm_X10_beginAnew ml_RX10_127 im_X10_beginAnew se_X10_beginAnew (tp_s T 1 rfl) rfl rfl (Nat.le_of_ble_eq_true rfl) (mx_da t_X10_catalogue 36 rfl) rfl (Nat.le_of_ble_eq_true rfl) rfl ?_
        refine mx_mono h ?_
        intro o M8 ho
        obtain ⟨e1, e2, ho⟩ := ho
        obtain ⟨rfl, h⟩ := ho
        refine ⟨e1, ?_⟩
        have T := tp_of e1 e2 T
        have ht0 := (congrFun (congrFun e2 1) 10).trans ht0
        have hu0 := (congrFun (congrFun e2 2) 2).trans hu0
        clear e1 e2
        show mx_W m_X10_catalogue (d + 1) 76 [.ref 1, .int v1, .int x2] [] M8 Q
        refine mx_goto (n := 89) (mx_da t_X10_catalogue 37 rfl) rfl ?_
        refine mx_iload_n 2 (mx_da t_X10_catalogue 44 rfl) rfl rfl rfl ?_
        exact mx_iret rfl (mx_da t_X10_catalogue 45 rfl) h
    · have h := h.2 g9
      exact mx_throw "java/lang/IllegalArgumentException" 0 109 111 113 (by decide) rfl (by decide +kernel) cl_109 in_IAE th_113.1 th_113.2 (mx_da t_X10_catalogue 7 rfl) (mx_da t_X10_catalogue 8 rfl) (mx_da t_X10_catalogue 9 rfl) (mx_da t_X10_catalogue 10 rfl) (mx_da t_X10_catalogue 11 rfl) rfl (by decide) h.1 h.2.1 h.2.2
set_option maxHeartbeats 1000000 in
theorem x_X10_beginAnew_0 {d : Nat} {M : mx_M} {Q : mx_O → mx_M → Prop} (T : mx_Tp M) (t : Nat) (ht : mx_Cat t) (ht0 : mx_R M 1 10 = t)
    (h : mx_W m_X10_beginAnew (d + 1) 2 [.ref 1, .int 0] [] M Q) :
    mx_W m_X10_beginAnew (d + 1) 0 [.ref 1, .retAddr 0] [] M Q := by
  refine mx_iconst (v := 0) (mx_da t_X10_beginAnew 0 rfl) rfl rfl ?_
  refine mx_istore_n 1 [.ref 1, .int 0] (mx_da t_X10_beginAnew 1 rfl) rfl rfl (by decide) rfl ?_
  exact h
set_option maxHeartbeats 1000000 in
theorem x_X10_beginAnew_2 {d : Nat} {M : mx_M} {Q : mx_O → mx_M → Prop} (T : mx_Tp M) (t : Nat) (ht : mx_Cat t) (ht0 : mx_R M 1 10 = t) (v1 : Int32)
    (h : (((mx_I M t 13) ≤ v1 → (∀ M1, M1 = mx_setI M 39 4 0 → (∀ M2, M2 = mx_setI M1 31 1 0 → (∀ M3, M3 = mx_setI M2 35 1 0 → (∀ M4, M4 = mx_setI M3 1 11 0 → (∀ M5, M5 = mx_setI M4 1 12 0 → Q (.inl none) M5)))))) ∧ (¬ (mx_I M t 13) ≤ v1 → (mx_W m_X3_learn d 0 [.ref 24, .ref t, .int v1] [] M (fun o M6 => mx_sh M6 = mx_sh M ∧ mx_R M6 = mx_R M ∧ (o = .inl none ∧ (mx_W m_X3_arrange d 0 [.ref 24, .ref t, .int v1, .int v1, .retAddr 0] [] M6 (fun o M7 => mx_sh M7 = mx_sh M6 ∧ mx_R M7 = mx_R M6 ∧ (o = .inl none ∧ mx_W m_X10_beginAnew (d + 1) 2 [.ref 1, .int (v1 + 1)] [] M7 Q))))))))) :
    mx_W m_X10_beginAnew (d + 1) 2 [.ref 1, .int v1] [] M Q := by
  refine mx_iload_n 1 (mx_da t_X10_beginAnew 2 rfl) rfl rfl rfl ?_
  refine mx_aload_n 0 (mx_da t_X10_beginAnew 3 rfl) rfl rfl rfl rfl ?_
  refine mx_getR t fs_RX10_71 rfl (tp_s T 1 rfl) ht0 (mx_da t_X10_beginAnew 4 rfl) rfl ?_
  refine mx_getI fs_RX10_130 rfl (cat_s T ht) (mx_da t_X10_beginAnew 5 rfl) rfl ?_
  refine mx_icmp_ge 44 (mx_da t_X10_beginAnew 6 rfl) rfl rfl (fun g9 => ?_) (fun g9 => ?_)
  · have h := h.1 g9
    refine mx_aload_n 0 (mx_da t_X10_beginAnew 22 rfl) rfl rfl rfl rfl ?_
    refine mx_getR 39 fs_RX10_57 rfl (tp_s T 1 rfl) (tp_r T 40 rfl) (mx_da t_X10_beginAnew 23 rfl) rfl ?_
    refine mx_iconst (v := 0) (mx_da t_X10_beginAnew 24 rfl) rfl rfl ?_
    refine mx_putI fs_RX10_141 rfl (tp_s T 39 rfl) rfl rfl rfl (mx_da t_X10_beginAnew 25 rfl) rfl ?_
    refine mx_gen (mx_setI M 39 4 0) (fun M1 e9 => ?_)
    have h := h _ e9
    have T : mx_Tp M1 := tp_e e9 T
    have ht0 : mx_R M1 1 10 = t := rr_e e9 ht0
    refine mx_aload_n 0 (mx_da t_X10_beginAnew 26 rfl) rfl rfl rfl rfl ?_
    refine mx_getR 31 fs_RX10_37 rfl (tp_s T 1 rfl) (tp_r T 30 rfl) (mx_da t_X10_beginAnew 27 rfl) rfl ?_
    refine mx_iconst (v := 0) (mx_da t_X10_beginAnew 28 rfl) rfl rfl ?_
    refine mx_putI fs_RX10_144 rfl (tp_s T 31 rfl) rfl rfl rfl (mx_da t_X10_beginAnew 29 rfl) rfl ?_
    refine mx_gen (mx_setI M1 31 1 0) (fun M2 e9 => ?_)
    have h := h _ e9
    have T : mx_Tp M2 := tp_e e9 T
    have ht0 : mx_R M2 1 10 = t := rr_e e9 ht0
    refine mx_aload_n 0 (mx_da t_X10_beginAnew 30 rfl) rfl rfl rfl rfl ?_
    refine mx_getR 35 fs_RX10_47 rfl (tp_s T 1 rfl) (tp_r T 34 rfl) (mx_da t_X10_beginAnew 31 rfl) rfl ?_
    refine mx_iconst (v := 0) (mx_da t_X10_beginAnew 32 rfl) rfl rfl ?_
    refine mx_putI fs_RX10_147 rfl (tp_s T 35 rfl) rfl rfl rfl (mx_da t_X10_beginAnew 33 rfl) rfl ?_
    refine mx_gen (mx_setI M2 35 1 0) (fun M3 e9 => ?_)
    have h := h _ e9
    have T : mx_Tp M3 := tp_e e9 T
    have ht0 : mx_R M3 1 10 = t := rr_e e9 ht0
    refine mx_aload_n 0 (mx_da t_X10_beginAnew 34 rfl) rfl rfl rfl rfl ?_
    refine mx_iconst (v := 0) (mx_da t_X10_beginAnew 35 rfl) rfl rfl ?_
    refine mx_putI fs_RX10_75 rfl (tp_s T 1 rfl) rfl rfl rfl (mx_da t_X10_beginAnew 36 rfl) rfl ?_
    refine mx_gen (mx_setI M3 1 11 0) (fun M4 e9 => ?_)
    have h := h _ e9
    have T : mx_Tp M4 := tp_e e9 T
    have ht0 : mx_R M4 1 10 = t := rr_e e9 ht0
    refine mx_aload_n 0 (mx_da t_X10_beginAnew 37 rfl) rfl rfl rfl rfl ?_
    refine mx_iconst (v := 0) (mx_da t_X10_beginAnew 38 rfl) rfl rfl ?_
    refine mx_putI fs_RX10_79 rfl (tp_s T 1 rfl) rfl rfl rfl (mx_da t_X10_beginAnew 39 rfl) rfl ?_
    refine mx_gen (mx_setI M4 1 12 0) (fun M5 e9 => ?_)
    have h := h _ e9
    have T : mx_Tp M5 := tp_e e9 T
    have ht0 : mx_R M5 1 10 = t := rr_e e9 ht0
    exact mx_vret rfl (mx_da t_X10_beginAnew 40 rfl) h
  · have h := h.2 g9
    refine mx_aload_n 0 (mx_da t_X10_beginAnew 7 rfl) rfl rfl rfl rfl ?_
    refine mx_getR 24 fs_RX10_30 rfl (tp_s T 1 rfl) (tp_r T 28 rfl) (mx_da t_X10_beginAnew 8 rfl) rfl ?_
    refine mx_aload_n 0 (mx_da t_X10_beginAnew 9 rfl) rfl rfl rfl rfl ?_
    refine mx_getR t fs_RX10_71 rfl (tp_s T 1 rfl) ht0 (mx_da t_X10_beginAnew 10 rfl) rfl ?_
    refine mx_iload_n 1 (mx_da t_X10_beginAnew 11 rfl) rfl rfl rfl ?_
    refine mx_callV yX3_learn m_X3_learn [.ref t, .int v1] mm_X3_learn ml_RX10_133 im_X3_learn se_X3_learn (tp_s T 24 rfl) rfl rfl (Nat.le_of_ble_eq_true rfl) (mx_da t_X10_beginAnew 12 rfl) rfl (Nat.le_of_ble_eq_true rfl) rfl ?_
    refine mx_mono h ?_
    intro o M6 ho
    obtain ⟨e1, e2, ho⟩ := ho
    obtain ⟨rfl, h⟩ := ho
    refine ⟨e1, ?_⟩
    have T := tp_of e1 e2 T
    have ht0 := (congrFun (congrFun e2 1) 10).trans ht0
    clear e1 e2
    show mx_W m_X10_beginAnew (d + 1) 25 [.ref 1, .int v1] [] M6 Q
    refine mx_aload_n 0 (mx_da t_X10_beginAnew 13 rfl) rfl rfl rfl rfl ?_
    refine mx_getR 24 fs_RX10_30 rfl (tp_s T 1 rfl) (tp_r T 28 rfl) (mx_da t_X10_beginAnew 14 rfl) rfl ?_
    refine mx_aload_n 0 (mx_da t_X10_beginAnew 15 rfl) rfl rfl rfl rfl ?_
    refine mx_getR t fs_RX10_71 rfl (tp_s T 1 rfl) ht0 (mx_da t_X10_beginAnew 16 rfl) rfl ?_
    refine mx_iload_n 1 (mx_da t_X10_beginAnew 17 rfl) rfl rfl rfl ?_
    refine mx_iload_n 1 (mx_da t_X10_beginAnew 18 rfl) rfl rfl rfl ?_
    refine mx_callV yX3_arrange m_X3_arrange [.ref t, .int v1, .int v1] mm_X3_arrange ml_RX10_137 im_X3_arrange se_X3_arrange (tp_s T 24 rfl) rfl rfl (Nat.le_of_ble_eq_true rfl) (mx_da t_X10_beginAnew 19 rfl) rfl (Nat.le_of_ble_eq_true rfl) rfl ?_
    refine mx_mono h ?_
    intro o M7 ho
    obtain ⟨e1, e2, ho⟩ := ho
    obtain ⟨rfl, h⟩ := ho
    refine ⟨e1, ?_⟩
    have T := tp_of e1 e2 T
    have ht0 := (congrFun (congrFun e2 1) 10).trans ht0
    clear e1 e2
    show mx_W m_X10_beginAnew (d + 1) 38 [.ref 1, .int v1] [] M7 Q
    refine mx_iinc 1 (v := v1 + 1) [.ref 1, .int (v1 + 1)] (mx_da t_X10_beginAnew 20 rfl) rfl (by decide) rfl rfl rfl ?_
    refine mx_goto (n := 2) (mx_da t_X10_beginAnew 21 rfl) rfl ?_
    exact h
set_option maxHeartbeats 1000000 in
theorem x_X10_fault_0 {d : Nat} {M : mx_M} {Q : mx_O → mx_M → Prop} (T : mx_Tp M) (t : Nat) (ht : mx_Cat t) (ht0 : mx_R M 1 10 = t)
    (h : Q (.inl (some (.int (mx_I M 1 14)))) M) :
    mx_W m_X10_fault d 0 [.ref 1] [] M Q := by
  refine mx_aload_n 0 (mx_da t_X10_fault 0 rfl) rfl rfl rfl rfl ?_
  refine mx_getI fs_RX10_87 rfl (tp_s T 1 rfl) (mx_da t_X10_fault 1 rfl) rfl ?_
  exact mx_iret rfl (mx_da t_X10_fault 2 rfl) h
set_option maxHeartbeats 1000000 in
theorem x_X10_count_0 {d : Nat} {M : mx_M} {Q : mx_O → mx_M → Prop} (T : mx_Tp M) (t : Nat) (ht : mx_Cat t) (ht0 : mx_R M 1 10 = t) (v1 : Int32)
    (h : ((v1 = 0 → Q (.inl (some (.int (mx_I M t 12)))) M) ∧ (v1 = 1 → Q (.inl (some (.int (mx_I M t 13)))) M) ∧ (v1 = 2 → Q (.inl (some (.int (mx_I M 31 1)))) M) ∧ (v1 = 3 → (mx_W m_X5_bits d 0 [.ref 31, .retAddr 0, .retAddr 0] [] M (fun o M1 => mx_sh M1 = mx_sh M ∧ mx_R M1 = mx_R M ∧ (∃ x2 : Int32, o = .inl (some (.int x2)) ∧ Q (.inl (some (.int x2))) M1)))) ∧ (v1 = 4 → Q (.inl (some (.int (mx_I M 35 1)))) M) ∧ (v1 = 5 → Q (.inl (some (.int (mx_I M 4 1)))) M) ∧ (v1 = 6 → Q (.inl (some (.int (mx_I M 1 15)))) M) ∧ (v1 = 7 → Q (.inl (some (.int (mx_I M 1 16)))) M) ∧ (¬ v1 = 0 → ¬ v1 = 1 → ¬ v1 = 2 → ¬ v1 = 3 → ¬ v1 = 4 → ¬ v1 = 5 → ¬ v1 = 6 → ¬ v1 = 7 → (1 ≤ (mx_rm M).1 ∧ 6 ≤ (mx_rm M).2 ∧ Q (.inr "java/util/NoSuchElementException") (mx_thM M))))) :
    mx_W m_X10_count (d + 1) 0 [.ref 1, .int v1] [] M Q := by
  refine mx_iload_n 1 (mx_da t_X10_count 0 rfl) rfl rfl rfl ?_
  by_cases hc0 : v1 = 0
  · have h := h.1 hc0
    refine mx_tsIn (n := 48) 0 hc0 (mx_da t_X10_count 1 rfl) (by decide) (by decide) rfl rfl ?_
    refine mx_aload_n 0 (mx_da t_X10_count 2 rfl) rfl rfl rfl rfl ?_
    refine mx_getR t fs_RX10_71 rfl (tp_s T 1 rfl) ht0 (mx_da t_X10_count 3 rfl) rfl ?_
    refine mx_getI fs_RX10_148 rfl (cat_s T ht) (mx_da t_X10_count 4 rfl) rfl ?_
    exact mx_iret rfl (mx_da t_X10_count 5 rfl) h
  by_cases hc1 : v1 = 1
  · have h := h.2.1 hc1
    refine mx_tsIn (n := 56) 1 hc1 (mx_da t_X10_count 1 rfl) (by decide) (by decide) rfl rfl ?_
    refine mx_aload_n 0 (mx_da t_X10_count 6 rfl) rfl rfl rfl rfl ?_
    refine mx_getR t fs_RX10_71 rfl (tp_s T 1 rfl) ht0 (mx_da t_X10_count 7 rfl) rfl ?_
    refine mx_getI fs_RX10_130 rfl (cat_s T ht) (mx_da t_X10_count 8 rfl) rfl ?_
    exact mx_iret rfl (mx_da t_X10_count 9 rfl) h
  by_cases hc2 : v1 = 2
  · have h := h.2.2.1 hc2
    refine mx_tsIn (n := 64) 2 hc2 (mx_da t_X10_count 1 rfl) (by decide) (by decide) rfl rfl ?_
    refine mx_aload_n 0 (mx_da t_X10_count 10 rfl) rfl rfl rfl rfl ?_
    refine mx_getR 31 fs_RX10_37 rfl (tp_s T 1 rfl) (tp_r T 30 rfl) (mx_da t_X10_count 11 rfl) rfl ?_
    refine mx_getI fs_RX10_144 rfl (tp_s T 31 rfl) (mx_da t_X10_count 12 rfl) rfl ?_
    exact mx_iret rfl (mx_da t_X10_count 13 rfl) h
  by_cases hc3 : v1 = 3
  · have h := h.2.2.2.1 hc3
    refine mx_tsIn (n := 72) 3 hc3 (mx_da t_X10_count 1 rfl) (by decide) (by decide) rfl rfl ?_
    refine mx_aload_n 0 (mx_da t_X10_count 14 rfl) rfl rfl rfl rfl ?_
    refine mx_getR 31 fs_RX10_37 rfl (tp_s T 1 rfl) (tp_r T 30 rfl) (mx_da t_X10_count 15 rfl) rfl ?_
    refine mx_callV yX5_bits m_X5_bits [] mm_X5_bits ml_RX10_151 im_X5_bits se_X5_bits (tp_s T 31 rfl) rfl rfl (Nat.le_of_ble_eq_true rfl) (mx_da t_X10_count 16 rfl) rfl (Nat.le_of_ble_eq_true rfl) rfl ?_
    refine mx_mono h ?_
    intro o M1 ho
    obtain ⟨e1, e2, ho⟩ := ho
    obtain ⟨x2, rfl, h⟩ := ho
    refine ⟨e1, ?_⟩
    have T := tp_of e1 e2 T
    have ht0 := (congrFun (congrFun e2 1) 10).trans ht0
    clear e1 e2
    show mx_W m_X10_count (d + 1) 79 [.ref 1, .int v1] [.int x2] M1 Q
    exact mx_iret rfl (mx_da t_X10_count 17 rfl) h
  by_cases hc4 : v1 = 4
  · have h := h.2.2.2.2.1 hc4
    refine mx_tsIn (n := 80) 4 hc4 (mx_da t_X10_count 1 rfl) (by decide) (by decide) rfl rfl ?_
    refine mx_aload_n 0 (mx_da t_X10_count 18 rfl) rfl rfl rfl rfl ?_
    refine mx_getR 35 fs_RX10_47 rfl (tp_s T 1 rfl) (tp_r T 34 rfl) (mx_da t_X10_count 19 rfl) rfl ?_
    refine mx_getI fs_RX10_147 rfl (tp_s T 35 rfl) (mx_da t_X10_count 20 rfl) rfl ?_
    exact mx_iret rfl (mx_da t_X10_count 21 rfl) h
  by_cases hc5 : v1 = 5
  · have h := h.2.2.2.2.2.1 hc5
    refine mx_tsIn (n := 88) 5 hc5 (mx_da t_X10_count 1 rfl) (by decide) (by decide) rfl rfl ?_
    refine mx_aload_n 0 (mx_da t_X10_count 22 rfl) rfl rfl rfl rfl ?_
    refine mx_getR 4 fs_RX10_26 rfl (tp_s T 1 rfl) (tp_r T 21 rfl) (mx_da t_X10_count 23 rfl) rfl ?_
    refine mx_getI fs_RX10_106 rfl (tp_s T 4 rfl) (mx_da t_X10_count 24 rfl) rfl ?_
    exact mx_iret rfl (mx_da t_X10_count 25 rfl) h
  by_cases hc6 : v1 = 6
  · have h := h.2.2.2.2.2.2.1 hc6
    refine mx_tsIn (n := 96) 6 hc6 (mx_da t_X10_count 1 rfl) (by decide) (by decide) rfl rfl ?_
    refine mx_aload_n 0 (mx_da t_X10_count 26 rfl) rfl rfl rfl rfl ?_
    refine mx_getI fs_RX10_90 rfl (tp_s T 1 rfl) (mx_da t_X10_count 27 rfl) rfl ?_
    exact mx_iret rfl (mx_da t_X10_count 28 rfl) h
  by_cases hc7 : v1 = 7
  · have h := h.2.2.2.2.2.2.2.1 hc7
    refine mx_tsIn (n := 101) 7 hc7 (mx_da t_X10_count 1 rfl) (by decide) (by decide) rfl rfl ?_
    refine mx_aload_n 0 (mx_da t_X10_count 29 rfl) rfl rfl rfl rfl ?_
    refine mx_getI fs_RX10_93 rfl (tp_s T 1 rfl) (mx_da t_X10_count 30 rfl) rfl ?_
    exact mx_iret rfl (mx_da t_X10_count 31 rfl) h
  have h := h.2.2.2.2.2.2.2.2 hc0 hc1 hc2 hc3 hc4 hc5 hc6 hc7
  refine mx_tsOut (n := 106) (mx_da t_X10_count 1 rfl) (by have g0 := mx_ne (n := 0) rfl hc0; have g1 := mx_ne (n := 1) rfl hc1; have g2 := mx_ne (n := 2) rfl hc2; have g3 := mx_ne (n := 3) rfl hc3; have g4 := mx_ne (n := 4) rfl hc4; have g5 := mx_ne (n := 5) rfl hc5; have g6 := mx_ne (n := 6) rfl hc6; have g7 := mx_ne (n := 7) rfl hc7; omega) rfl ?_
  exact mx_thrN 16 155 157 2 rfl (by decide) rfl cl_155 in_NSE (mx_da t_X10_count 32 rfl) (mx_da t_X10_count 33 rfl) (Or.inl ⟨rfl, (mx_da t_X10_count 34 rfl)⟩) (mx_da t_X10_count 35 rfl) (mx_da t_X10_count 36 rfl) rfl (by decide) h.1 h.2.1 h.2.2
set_option maxHeartbeats 1000000 in
theorem x_X10_card_0 {d : Nat} {M : mx_M} {Q : mx_O → mx_M → Prop} (T : mx_Tp M) (t : Nat) (ht : mx_Cat t) (ht0 : mx_R M 1 10 = t) (v1 : Int32) (v2 : Int32)
    (h : (mx_W m_X10_needCard d 0 [.ref 1, .int v1] [] M (fun o M1 => mx_sh M1 = mx_sh M ∧ mx_R M1 = mx_R M ∧ ((o = .inl none ∧ ((v2 = 0 → (vp_in v1 10 ∧ Q (.inl (some (.int (mx_I M1 (t + 1) v1.toNatClampNeg)))) M1)) ∧ (v2 = 1 → (vp_in v1 10 ∧ Q (.inl (some (.int (mx_I M1 (t + 2) v1.toNatClampNeg)))) M1)) ∧ (v2 = 2 → (vp_in v1 10 ∧ Q (.inl (some (.int (mx_I M1 (t + 3) v1.toNatClampNeg)))) M1)) ∧ (v2 = 3 → (mx_W m_X5_placeOf d 0 [.ref 31, .int v1, .retAddr 0] [] M1 (fun o M2 => mx_sh M2 = mx_sh M1 ∧ mx_R M2 = mx_R M1 ∧ (∃ x3 : Int32, o = .inl (some (.int x3)) ∧ Q (.inl (some (.int x3))) M2)))) ∧ (v2 = 4 → (mx_W m_X10_clerksWhoHaveFirst d 0 [.ref 1, .int v1, .retAddr 0, .retAddr 0] [] M1 (fun o M4 => mx_sh M4 = mx_sh M1 ∧ mx_R M4 = mx_R M1 ∧ (∃ x5 : Int32, o = .inl (some (.int x5)) ∧ Q (.inl (some (.int x5))) M4)))) ∧ (¬ v2 = 0 → ¬ v2 = 1 → ¬ v2 = 2 → ¬ v2 = 3 → ¬ v2 = 4 → (1 ≤ (mx_rm M1).1 ∧ 6 ≤ (mx_rm M1).2 ∧ Q (.inr "java/util/NoSuchElementException") (mx_thM M1))))) ∨ ∃ E, o = .inr E ∧ Q (.inr E) M1)))) :
    mx_W m_X10_card (d + 1) 0 [.ref 1, .int v1, .int v2] [] M Q := by
  refine mx_aload_n 0 (mx_da t_X10_card 0 rfl) rfl rfl rfl rfl ?_
  refine mx_iload_n 1 (mx_da t_X10_card 1 rfl) rfl rfl rfl ?_
  refine mx_callV yX10_needCard m_X10_needCard [.int v1] mm_X10_needCard ml_RX10_160 im_X10_needCard se_X10_needCard (tp_s T 1 rfl) rfl rfl (Nat.le_of_ble_eq_true rfl) (mx_da t_X10_card 2 rfl) rfl (Nat.le_of_ble_eq_true rfl) rfl ?_
  refine mx_mono h ?_
  intro o M1 ho
  obtain ⟨e1, e2, ho⟩ := ho
  rcases ho with ⟨rfl, h⟩ | ⟨E, rfl, h⟩
  rotate_left
  · exact ⟨e1, h⟩
  refine ⟨e1, ?_⟩
  have T := tp_of e1 e2 T
  have ht0 := (congrFun (congrFun e2 1) 10).trans ht0
  clear e1 e2
  show mx_W m_X10_card (d + 1) 5 [.ref 1, .int v1, .int v2] [] M1 Q
  refine mx_iload_n 2 (mx_da t_X10_card 3 rfl) rfl rfl rfl ?_
  by_cases hc0 : v2 = 0
  · have h := h.1 hc0
    refine mx_tsIn (n := 40) 0 hc0 (mx_da t_X10_card 4 rfl) (by decide) (by decide) rfl rfl ?_
    refine mx_aload_n 0 (mx_da t_X10_card 5 rfl) rfl rfl rfl rfl ?_
    refine mx_getR t fs_RX10_71 rfl (tp_s T 1 rfl) ht0 (mx_da t_X10_card 6 rfl) rfl ?_
    refine mx_getR (t + 1) fs_RX10_163 rfl (cat_s T ht) (cat_r0 T ht) (mx_da t_X10_card 7 rfl) rfl ?_
    refine mx_iload_n 1 (mx_da t_X10_card 8 rfl) rfl rfl rfl ?_
    refine mx_iald (cat_a0 T ht) h.1 (mx_da t_X10_card 9 rfl) rfl ?_
    have h := h.2
    exact mx_iret rfl (mx_da t_X10_card 10 rfl) h
  by_cases hc1 : v2 = 1
  · have h := h.2.1 hc1
    refine mx_tsIn (n := 50) 1 hc1 (mx_da t_X10_card 4 rfl) (by decide) (by decide) rfl rfl ?_
    refine mx_aload_n 0 (mx_da t_X10_card 11 rfl) rfl rfl rfl rfl ?_
    refine mx_getR t fs_RX10_71 rfl (tp_s T 1 rfl) ht0 (mx_da t_X10_card 12 rfl) rfl ?_
    refine mx_getR (t + 2) fs_RX10_166 rfl (cat_s T ht) (cat_r1 T ht) (mx_da t_X10_card 13 rfl) rfl ?_
    refine mx_iload_n 1 (mx_da t_X10_card 14 rfl) rfl rfl rfl ?_
    refine mx_iald (cat_a1 T ht) h.1 (mx_da t_X10_card 15 rfl) rfl ?_
    have h := h.2
    exact mx_iret rfl (mx_da t_X10_card 16 rfl) h
  by_cases hc2 : v2 = 2
  · have h := h.2.2.1 hc2
    refine mx_tsIn (n := 60) 2 hc2 (mx_da t_X10_card 4 rfl) (by decide) (by decide) rfl rfl ?_
    refine mx_aload_n 0 (mx_da t_X10_card 17 rfl) rfl rfl rfl rfl ?_
    refine mx_getR t fs_RX10_71 rfl (tp_s T 1 rfl) ht0 (mx_da t_X10_card 18 rfl) rfl ?_
    refine mx_getR (t + 3) fs_RX10_169 rfl (cat_s T ht) (cat_r2 T ht) (mx_da t_X10_card 19 rfl) rfl ?_
    refine mx_iload_n 1 (mx_da t_X10_card 20 rfl) rfl rfl rfl ?_
    refine mx_iald (cat_a2 T ht) h.1 (mx_da t_X10_card 21 rfl) rfl ?_
    have h := h.2
    exact mx_iret rfl (mx_da t_X10_card 22 rfl) h
  by_cases hc3 : v2 = 3
  · have h := h.2.2.2.1 hc3
    refine mx_tsIn (n := 70) 3 hc3 (mx_da t_X10_card 4 rfl) (by decide) (by decide) rfl rfl ?_
    refine mx_aload_n 0 (mx_da t_X10_card 23 rfl) rfl rfl rfl rfl ?_
    refine mx_getR 31 fs_RX10_37 rfl (tp_s T 1 rfl) (tp_r T 30 rfl) (mx_da t_X10_card 24 rfl) rfl ?_
    refine mx_iload_n 1 (mx_da t_X10_card 25 rfl) rfl rfl rfl ?_
    refine mx_callV yX5_placeOf m_X5_placeOf [.int v1] mm_X5_placeOf ml_RX10_172 im_X5_placeOf se_X5_placeOf (tp_s T 31 rfl) rfl rfl (Nat.le_of_ble_eq_true rfl) (mx_da t_X10_card 26 rfl) rfl (Nat.le_of_ble_eq_true rfl) rfl ?_
    refine mx_mono h ?_
    intro o M2 ho
    obtain ⟨e1, e2, ho⟩ := ho
    obtain ⟨x3, rfl, h⟩ := ho
    refine ⟨e1, ?_⟩
    have T := tp_of e1 e2 T
    have ht0 := (congrFun (congrFun e2 1) 10).trans ht0
    clear e1 e2
    show mx_W m_X10_card (d + 1) 78 [.ref 1, .int v1, .int v2] [.int x3] M2 Q
    exact mx_iret rfl (mx_da t_X10_card 27 rfl) h
  by_cases hc4 : v2 = 4
  · have h := h.2.2.2.2.1 hc4
    refine mx_tsIn (n := 79) 4 hc4 (mx_da t_X10_card 4 rfl) (by decide) (by decide) rfl rfl ?_
    refine mx_aload_n 0 (mx_da t_X10_card 28 rfl) rfl rfl rfl rfl ?_
    refine mx_iload_n 1 (mx_da t_X10_card 29 rfl) rfl rfl rfl ?_
    refine mx_callV yX10_clerksWhoHaveFirst m_X10_clerksWhoHaveFirst [.int v1] mm_X10_clerksWhoHaveFirst ml_RX10_175 im_X10_clerksWhoHaveFirst se_X10_clerksWhoHaveFirst (tp_s T 1 rfl) rfl rfl (Nat.le_of_ble_eq_true rfl) (mx_da t_X10_card 30 rfl) rfl (Nat.le_of_ble_eq_true rfl) rfl ?_
    refine mx_mono h ?_
    intro o M4 ho
    obtain ⟨e1, e2, ho⟩ := ho
    obtain ⟨x5, rfl, h⟩ := ho
    refine ⟨e1, ?_⟩
    have T := tp_of e1 e2 T
    have ht0 := (congrFun (congrFun e2 1) 10).trans ht0
    clear e1 e2
    show mx_W m_X10_card (d + 1) 84 [.ref 1, .int v1, .int v2] [.int x5] M4 Q
    exact mx_iret rfl (mx_da t_X10_card 31 rfl) h
  have h := h.2.2.2.2.2 hc0 hc1 hc2 hc3 hc4
  refine mx_tsOut (n := 85) (mx_da t_X10_card 4 rfl) (by have g0 := mx_ne (n := 0) rfl hc0; have g1 := mx_ne (n := 1) rfl hc1; have g2 := mx_ne (n := 2) rfl hc2; have g3 := mx_ne (n := 3) rfl hc3; have g4 := mx_ne (n := 4) rfl hc4; omega) rfl ?_
  exact mx_thrN 18 155 178 2 rfl (by decide) rfl cl_155 in_NSE (mx_da t_X10_card 32 rfl) (mx_da t_X10_card 33 rfl) (Or.inl ⟨rfl, (mx_da t_X10_card 34 rfl)⟩) (mx_da t_X10_card 35 rfl) (mx_da t_X10_card 36 rfl) rfl (by decide) h.1 h.2.1 h.2.2
set_option maxHeartbeats 1000000 in
theorem x_X10_clerksWhoHaveFirst_0 {d : Nat} {M : mx_M} {Q : mx_O → mx_M → Prop} (T : mx_Tp M) (t : Nat) (ht : mx_Cat t) (ht0 : mx_R M 1 10 = t) (v1 : Int32)
    (h : mx_W m_X10_clerksWhoHaveFirst (d + 1) 4 [.ref 1, .int v1, .int 0, .int 0] [] M Q) :
    mx_W m_X10_clerksWhoHaveFirst (d + 1) 0 [.ref 1, .int v1, .retAddr 0, .retAddr 0] [] M Q := by
  refine mx_iconst (v := 0) (mx_da t_X10_clerksWhoHaveFirst 0 rfl) rfl rfl ?_
  refine mx_istore_n 2 [.ref 1, .int v1, .int 0, .retAddr 0] (mx_da t_X10_clerksWhoHaveFirst 1 rfl) rfl rfl (by decide) rfl ?_
  refine mx_iconst (v := 0) (mx_da t_X10_clerksWhoHaveFirst 2 rfl) rfl rfl ?_
  refine mx_istore_n 3 [.ref 1, .int v1, .int 0, .int 0] (mx_da t_X10_clerksWhoHaveFirst 3 rfl) rfl rfl (by decide) rfl ?_
  exact h
set_option maxHeartbeats 1000000 in
theorem x_X10_clerksWhoHaveFirst_4 {d : Nat} {M : mx_M} {Q : mx_O → mx_M → Prop} (T : mx_Tp M) (t : Nat) (ht : mx_Cat t) (ht0 : mx_R M 1 10 = t) (v1 : Int32) (v2 : Int32) (v3 : Int32)
    (h : (((mx_I M t 13) ≤ v3 → Q (.inl (some (.int v2))) M) ∧ (¬ (mx_I M t 13) ≤ v3 → (mx_W m_X3_rankOf d 0 [.ref 24, .int v3, .int v1] [] M (fun o M1 => mx_sh M1 = mx_sh M ∧ mx_R M1 = mx_R M ∧ (∃ x2 : Int32, o = .inl (some (.int x2)) ∧ ((¬ x2 = 0 → mx_W m_X10_clerksWhoHaveFirst (d + 1) 4 [.ref 1, .int v1, .int v2, .int (v3 + 1)] [] M1 Q) ∧ (x2 = 0 → mx_W m_X10_clerksWhoHaveFirst (d + 1) 4 [.ref 1, .int v1, .int (v2 ||| (1 <<< (v3 &&& 31))), .int (v3 + 1)] [] M1 Q)))))))) :
    mx_W m_X10_clerksWhoHaveFirst (d + 1) 4 [.ref 1, .int v1, .int v2, .int v3] [] M Q := by
  refine mx_iload_n 3 (mx_da t_X10_clerksWhoHaveFirst 4 rfl) rfl rfl rfl ?_
  refine mx_aload_n 0 (mx_da t_X10_clerksWhoHaveFirst 5 rfl) rfl rfl rfl rfl ?_
  refine mx_getR t fs_RX10_71 rfl (tp_s T 1 rfl) ht0 (mx_da t_X10_clerksWhoHaveFirst 6 rfl) rfl ?_
  refine mx_getI fs_RX10_130 rfl (cat_s T ht) (mx_da t_X10_clerksWhoHaveFirst 7 rfl) rfl ?_
  refine mx_icmp_ge 39 (mx_da t_X10_clerksWhoHaveFirst 8 rfl) rfl rfl (fun g9 => ?_) (fun g9 => ?_)
  · have h := h.1 g9
    refine mx_iload_n 2 (mx_da t_X10_clerksWhoHaveFirst 23 rfl) rfl rfl rfl ?_
    exact mx_iret rfl (mx_da t_X10_clerksWhoHaveFirst 24 rfl) h
  · have h := h.2 g9
    refine mx_aload_n 0 (mx_da t_X10_clerksWhoHaveFirst 9 rfl) rfl rfl rfl rfl ?_
    refine mx_getR 24 fs_RX10_30 rfl (tp_s T 1 rfl) (tp_r T 28 rfl) (mx_da t_X10_clerksWhoHaveFirst 10 rfl) rfl ?_
    refine mx_iload_n 3 (mx_da t_X10_clerksWhoHaveFirst 11 rfl) rfl rfl rfl ?_
    refine mx_iload_n 1 (mx_da t_X10_clerksWhoHaveFirst 12 rfl) rfl rfl rfl ?_
    refine mx_callV yX3_rankOf m_X3_rankOf [.int v3, .int v1] mm_X3_rankOf ml_RX10_180 im_X3_rankOf se_X3_rankOf (tp_s T 24 rfl) rfl rfl (Nat.le_of_ble_eq_true rfl) (mx_da t_X10_clerksWhoHaveFirst 13 rfl) rfl (Nat.le_of_ble_eq_true rfl) rfl ?_
    refine mx_mono h ?_
    intro o M1 ho
    obtain ⟨e1, e2, ho⟩ := ho
    obtain ⟨x2, rfl, h⟩ := ho
    refine ⟨e1, ?_⟩
    have T := tp_of e1 e2 T
    have ht0 := (congrFun (congrFun e2 1) 10).trans ht0
    clear e1 e2
    show mx_W m_X10_clerksWhoHaveFirst (d + 1) 24 [.ref 1, .int v1, .int v2, .int v3] [.int x2] M1 Q
    refine mx_if_ne 33 (mx_da t_X10_clerksWhoHaveFirst 14 rfl) rfl rfl (fun g9 => ?_) (fun g9 => ?_)
    · have h := h.1 g9
      refine mx_iinc 3 (v := v3 + 1) [.ref 1, .int v1, .int v2, .int (v3 + 1)] (mx_da t_X10_clerksWhoHaveFirst 21 rfl) rfl (by decide) rfl rfl rfl ?_
      refine mx_goto (n := 4) (mx_da t_X10_clerksWhoHaveFirst 22 rfl) rfl ?_
      exact h
    · have h := h.2 g9
      refine mx_iload_n 2 (mx_da t_X10_clerksWhoHaveFirst 15 rfl) rfl rfl rfl ?_
      refine mx_iconst (v := 1) (mx_da t_X10_clerksWhoHaveFirst 16 rfl) rfl rfl ?_
      refine mx_iload_n 3 (mx_da t_X10_clerksWhoHaveFirst 17 rfl) rfl rfl rfl ?_
      refine mx_ishl (mx_da t_X10_clerksWhoHaveFirst 18 rfl) rfl ?_
      refine mx_ior (mx_da t_X10_clerksWhoHaveFirst 19 rfl) rfl ?_
      refine mx_istore_n 2 [.ref 1, .int v1, .int (v2 ||| (1 <<< (v3 &&& 31))), .int v3] (mx_da t_X10_clerksWhoHaveFirst 20 rfl) rfl rfl (by decide) rfl ?_
      refine mx_iinc 3 (v := v3 + 1) [.ref 1, .int v1, .int (v2 ||| (1 <<< (v3 &&& 31))), .int (v3 + 1)] (mx_da t_X10_clerksWhoHaveFirst 21 rfl) rfl (by decide) rfl rfl rfl ?_
      refine mx_goto (n := 4) (mx_da t_X10_clerksWhoHaveFirst 22 rfl) rfl ?_
      exact h
set_option maxHeartbeats 1000000 in
theorem x_X10_clerk_0 {d : Nat} {M : mx_M} {Q : mx_O → mx_M → Prop} (T : mx_Tp M) (t : Nat) (ht : mx_Cat t) (ht0 : mx_R M 1 10 = t) (v1 : Int32) (v2 : Int32)
    (h : (mx_W m_X10_needClerk d 0 [.ref 1, .int v1] [] M (fun o M1 => mx_sh M1 = mx_sh M ∧ mx_R M1 = mx_R M ∧ ((o = .inl none ∧ ((v2 = 0 → (vp_in v1 4 ∧ Q (.inl (some (.int (mx_I M1 (t + 5) v1.toNatClampNeg)))) M1)) ∧ (v2 = 1 → (vp_in v1 4 ∧ (((mx_I M1 (t + 9) v1.toNatClampNeg) = 0 → Q (.inl (some (.int 0))) M1) ∧ (¬ (mx_I M1 (t + 9) v1.toNatClampNeg) = 0 → Q (.inl (some (.int 1))) M1)))) ∧ (v2 = 2 → (vp_in v1 4 ∧ (((mx_I M1 (t + 10) v1.toNatClampNeg) = 0 → Q (.inl (some (.int 0))) M1) ∧ (¬ (mx_I M1 (t + 10) v1.toNatClampNeg) = 0 → Q (.inl (some (.int 1))) M1)))) ∧ (v2 = 3 → (vp_in v1 4 ∧ (((mx_I M1 (t + 11) v1.toNatClampNeg) = 0 → Q (.inl (some (.int 0))) M1) ∧ (¬ (mx_I M1 (t + 11) v1.toNatClampNeg) = 0 → Q (.inl (some (.int 1))) M1)))) ∧ (v2 = 4 → (mx_W m_X5_wrongBy d 0 [.ref 31, .ref 24, .int v1, .retAddr 0, .retAddr 0, .retAddr 0] [] M1 (fun o M2 => mx_sh M2 = mx_sh M1 ∧ mx_R M2 = mx_R M1 ∧ (∃ x3 : Int32, o = .inl (some (.int x3)) ∧ Q (.inl (some (.int x3))) M2)))) ∧ (v2 = 5 → (mx_W m_X10_longestStay d 0 [.ref 1, .int v1, .retAddr 0, .retAddr 0, .retAddr 0] [] M1 (fun o M4 => mx_sh M4 = mx_sh M1 ∧ mx_R M4 = mx_R M1 ∧ (∃ x5 : Int32, o = .inl (some (.int x5)) ∧ Q (.inl (some (.int ((mx_I M1 31 1) - x5)))) M4)))) ∧ (v2 = 6 → (mx_W m_X10_mostLooks d 0 [.ref 1, .int v1, .retAddr 0, .retAddr 0] [] M1 (fun o M6 => mx_sh M6 = mx_sh M1 ∧ mx_R M6 = mx_R M1 ∧ (∃ x7 : Int32, o = .inl (some (.int x7)) ∧ Q (.inl (some (.int x7))) M6)))) ∧ (¬ v2 = 0 → ¬ v2 = 1 → ¬ v2 = 2 → ¬ v2 = 3 → ¬ v2 = 4 → ¬ v2 = 5 → ¬ v2 = 6 → (1 ≤ (mx_rm M1).1 ∧ 6 ≤ (mx_rm M1).2 ∧ Q (.inr "java/util/NoSuchElementException") (mx_thM M1))))) ∨ ∃ E, o = .inr E ∧ Q (.inr E) M1)))) :
    mx_W m_X10_clerk (d + 1) 0 [.ref 1, .int v1, .int v2] [] M Q := by
  refine mx_aload_n 0 (mx_da t_X10_clerk 0 rfl) rfl rfl rfl rfl ?_
  refine mx_iload_n 1 (mx_da t_X10_clerk 1 rfl) rfl rfl rfl ?_
  refine mx_callV yX10_needClerk m_X10_needClerk [.int v1] mm_X10_needClerk ml_RX10_184 im_X10_needClerk se_X10_needClerk (tp_s T 1 rfl) rfl rfl (Nat.le_of_ble_eq_true rfl) (mx_da t_X10_clerk 2 rfl) rfl (Nat.le_of_ble_eq_true rfl) rfl ?_
  refine mx_mono h ?_
  intro o M1 ho
  obtain ⟨e1, e2, ho⟩ := ho
  rcases ho with ⟨rfl, h⟩ | ⟨E, rfl, h⟩
  rotate_left
  · exact ⟨e1, h⟩
  refine ⟨e1, ?_⟩
  have T := tp_of e1 e2 T
  have ht0 := (congrFun (congrFun e2 1) 10).trans ht0
  clear e1 e2
  show mx_W m_X10_clerk (d + 1) 5 [.ref 1, .int v1, .int v2] [] M1 Q
  refine mx_iload_n 2 (mx_da t_X10_clerk 3 rfl) rfl rfl rfl ?_
  by_cases hc0 : v2 = 0
  · have h := h.1 hc0
    refine mx_tsIn (n := 48) 0 hc0 (mx_da t_X10_clerk 4 rfl) (by decide) (by decide) rfl rfl ?_
    refine mx_aload_n 0 (mx_da t_X10_clerk 5 rfl) rfl rfl rfl rfl ?_
    refine mx_getR t fs_RX10_71 rfl (tp_s T 1 rfl) ht0 (mx_da t_X10_clerk 6 rfl) rfl ?_
    refine mx_getR (t + 5) fs_RX10_187 rfl (cat_s T ht) (cat_r4 T ht) (mx_da t_X10_clerk 7 rfl) rfl ?_
    refine mx_iload_n 1 (mx_da t_X10_clerk 8 rfl) rfl rfl rfl ?_
    refine mx_iald (cat_a4 T ht) h.1 (mx_da t_X10_clerk 9 rfl) rfl ?_
    have h := h.2
    exact mx_iret rfl (mx_da t_X10_clerk 10 rfl) h
  by_cases hc1 : v2 = 1
  · have h := h.2.1 hc1
    refine mx_tsIn (n := 58) 1 hc1 (mx_da t_X10_clerk 4 rfl) (by decide) (by decide) rfl rfl ?_
    refine mx_aload_n 0 (mx_da t_X10_clerk 11 rfl) rfl rfl rfl rfl ?_
    refine mx_getR t fs_RX10_71 rfl (tp_s T 1 rfl) ht0 (mx_da t_X10_clerk 12 rfl) rfl ?_
    refine mx_getR (t + 9) fs_RX10_190 rfl (cat_s T ht) (cat_r8 T ht) (mx_da t_X10_clerk 13 rfl) rfl ?_
    refine mx_iload_n 1 (mx_da t_X10_clerk 14 rfl) rfl rfl rfl ?_
    refine mx_zald (cat_a8 T ht) h.1 (mx_da t_X10_clerk 15 rfl) rfl ?_
    have h := h.2
    refine mx_if_eq 74 (mx_da t_X10_clerk 16 rfl) rfl rfl (fun g9 => ?_) (fun g9 => ?_)
    · have h := h.1 g9
      refine mx_iconst (v := 0) (mx_da t_X10_clerk 19 rfl) rfl rfl ?_
      exact mx_iret rfl (mx_da t_X10_clerk 20 rfl) h
    · have h := h.2 g9
      refine mx_iconst (v := 1) (mx_da t_X10_clerk 17 rfl) rfl rfl ?_
      refine mx_goto (n := 75) (mx_da t_X10_clerk 18 rfl) rfl ?_
      exact mx_iret rfl (mx_da t_X10_clerk 20 rfl) h
  by_cases hc2 : v2 = 2
  · have h := h.2.2.1 hc2
    refine mx_tsIn (n := 76) 2 hc2 (mx_da t_X10_clerk 4 rfl) (by decide) (by decide) rfl rfl ?_
    refine mx_aload_n 0 (mx_da t_X10_clerk 21 rfl) rfl rfl rfl rfl ?_
    refine mx_getR t fs_RX10_71 rfl (tp_s T 1 rfl) ht0 (mx_da t_X10_clerk 22 rfl) rfl ?_
    refine mx_getR (t + 10) fs_RX10_194 rfl (cat_s T ht) (cat_r9 T ht) (mx_da t_X10_clerk 23 rfl) rfl ?_
    refine mx_iload_n 1 (mx_da t_X10_clerk 24 rfl) rfl rfl rfl ?_
    refine mx_zald (cat_a9 T ht) h.1 (mx_da t_X10_clerk 25 rfl) rfl ?_
    have h := h.2
    refine mx_if_eq 92 (mx_da t_X10_clerk 26 rfl) rfl rfl (fun g9 => ?_) (fun g9 => ?_)
    · have h := h.1 g9
      refine mx_iconst (v := 0) (mx_da t_X10_clerk 29 rfl) rfl rfl ?_
      exact mx_iret rfl (mx_da t_X10_clerk 30 rfl) h
    · have h := h.2 g9
      refine mx_iconst (v := 1) (mx_da t_X10_clerk 27 rfl) rfl rfl ?_
      refine mx_goto (n := 93) (mx_da t_X10_clerk 28 rfl) rfl ?_
      exact mx_iret rfl (mx_da t_X10_clerk 30 rfl) h
  by_cases hc3 : v2 = 3
  · have h := h.2.2.2.1 hc3
    refine mx_tsIn (n := 94) 3 hc3 (mx_da t_X10_clerk 4 rfl) (by decide) (by decide) rfl rfl ?_
    refine mx_aload_n 0 (mx_da t_X10_clerk 31 rfl) rfl rfl rfl rfl ?_
    refine mx_getR t fs_RX10_71 rfl (tp_s T 1 rfl) ht0 (mx_da t_X10_clerk 32 rfl) rfl ?_
    refine mx_getR (t + 11) fs_RX10_197 rfl (cat_s T ht) (cat_r10 T ht) (mx_da t_X10_clerk 33 rfl) rfl ?_
    refine mx_iload_n 1 (mx_da t_X10_clerk 34 rfl) rfl rfl rfl ?_
    refine mx_zald (cat_a10 T ht) h.1 (mx_da t_X10_clerk 35 rfl) rfl ?_
    have h := h.2
    refine mx_if_eq 110 (mx_da t_X10_clerk 36 rfl) rfl rfl (fun g9 => ?_) (fun g9 => ?_)
    · have h := h.1 g9
      refine mx_iconst (v := 0) (mx_da t_X10_clerk 39 rfl) rfl rfl ?_
      exact mx_iret rfl (mx_da t_X10_clerk 40 rfl) h
    · have h := h.2 g9
      refine mx_iconst (v := 1) (mx_da t_X10_clerk 37 rfl) rfl rfl ?_
      refine mx_goto (n := 111) (mx_da t_X10_clerk 38 rfl) rfl ?_
      exact mx_iret rfl (mx_da t_X10_clerk 40 rfl) h
  by_cases hc4 : v2 = 4
  · have h := h.2.2.2.2.1 hc4
    refine mx_tsIn (n := 112) 4 hc4 (mx_da t_X10_clerk 4 rfl) (by decide) (by decide) rfl rfl ?_
    refine mx_aload_n 0 (mx_da t_X10_clerk 41 rfl) rfl rfl rfl rfl ?_
    refine mx_getR 31 fs_RX10_37 rfl (tp_s T 1 rfl) (tp_r T 30 rfl) (mx_da t_X10_clerk 42 rfl) rfl ?_
    refine mx_aload_n 0 (mx_da t_X10_clerk 43 rfl) rfl rfl rfl rfl ?_
    refine mx_getR 24 fs_RX10_30 rfl (tp_s T 1 rfl) (tp_r T 28 rfl) (mx_da t_X10_clerk 44 rfl) rfl ?_
    refine mx_iload_n 1 (mx_da t_X10_clerk 45 rfl) rfl rfl rfl ?_
    refine mx_callV yX5_wrongBy m_X5_wrongBy [.ref 24, .int v1] mm_X5_wrongBy ml_RX10_200 im_X5_wrongBy se_X5_wrongBy (tp_s T 31 rfl) rfl rfl (Nat.le_of_ble_eq_true rfl) (mx_da t_X10_clerk 46 rfl) rfl (Nat.le_of_ble_eq_true rfl) rfl ?_
    refine mx_mono h ?_
    intro o M2 ho
    obtain ⟨e1, e2, ho⟩ := ho
    obtain ⟨x3, rfl, h⟩ := ho
    refine ⟨e1, ?_⟩
    have T := tp_of e1 e2 T
    have ht0 := (congrFun (congrFun e2 1) 10).trans ht0
    clear e1 e2
    show mx_W m_X10_clerk (d + 1) 124 [.ref 1, .int v1, .int v2] [.int x3] M2 Q
    exact mx_iret rfl (mx_da t_X10_clerk 47 rfl) h
  by_cases hc5 : v2 = 5
  · have h := h.2.2.2.2.2.1 hc5
    refine mx_tsIn (n := 125) 5 hc5 (mx_da t_X10_clerk 4 rfl) (by decide) (by decide) rfl rfl ?_
    refine mx_aload_n 0 (mx_da t_X10_clerk 48 rfl) rfl rfl rfl rfl ?_
    refine mx_getR 31 fs_RX10_37 rfl (tp_s T 1 rfl) (tp_r T 30 rfl) (mx_da t_X10_clerk 49 rfl) rfl ?_
    refine mx_getI fs_RX10_144 rfl (tp_s T 31 rfl) (mx_da t_X10_clerk 50 rfl) rfl ?_
    refine mx_aload_n 0 (mx_da t_X10_clerk 51 rfl) rfl rfl rfl rfl ?_
    refine mx_iload_n 1 (mx_da t_X10_clerk 52 rfl) rfl rfl rfl ?_
    refine mx_callV yX10_longestStay m_X10_longestStay [.int v1] mm_X10_longestStay ml_RX10_204 im_X10_longestStay se_X10_longestStay (tp_s T 1 rfl) rfl rfl (Nat.le_of_ble_eq_true rfl) (mx_da t_X10_clerk 53 rfl) rfl (Nat.le_of_ble_eq_true rfl) rfl ?_
    refine mx_mono h ?_
    intro o M4 ho
    obtain ⟨e1, e2, ho⟩ := ho
    obtain ⟨x5, rfl, h⟩ := ho
    refine ⟨e1, ?_⟩
    have T := tp_of e1 e2 T
    have ht0 := (congrFun (congrFun e2 1) 10).trans ht0
    clear e1 e2
    show mx_W m_X10_clerk (d + 1) 137 [.ref 1, .int v1, .int v2] [.int x5, .int (mx_I M1 31 1)] M4 Q
    refine mx_isub (mx_da t_X10_clerk 54 rfl) rfl ?_
    exact mx_iret rfl (mx_da t_X10_clerk 55 rfl) h
  by_cases hc6 : v2 = 6
  · have h := h.2.2.2.2.2.2.1 hc6
    refine mx_tsIn (n := 139) 6 hc6 (mx_da t_X10_clerk 4 rfl) (by decide) (by decide) rfl rfl ?_
    refine mx_aload_n 0 (mx_da t_X10_clerk 56 rfl) rfl rfl rfl rfl ?_
    refine mx_iload_n 1 (mx_da t_X10_clerk 57 rfl) rfl rfl rfl ?_
    refine mx_callV yX10_mostLooks m_X10_mostLooks [.int v1] mm_X10_mostLooks ml_RX10_207 im_X10_mostLooks se_X10_mostLooks (tp_s T 1 rfl) rfl rfl (Nat.le_of_ble_eq_true rfl) (mx_da t_X10_clerk 58 rfl) rfl (Nat.le_of_ble_eq_true rfl) rfl ?_
    refine mx_mono h ?_
    intro o M6 ho
    obtain ⟨e1, e2, ho⟩ := ho
    obtain ⟨x7, rfl, h⟩ := ho
    refine ⟨e1, ?_⟩
    have T := tp_of e1 e2 T
    have ht0 := (congrFun (congrFun e2 1) 10).trans ht0
    clear e1 e2
    show mx_W m_X10_clerk (d + 1) 144 [.ref 1, .int v1, .int v2] [.int x7] M6 Q
    exact mx_iret rfl (mx_da t_X10_clerk 59 rfl) h
  have h := h.2.2.2.2.2.2.2 hc0 hc1 hc2 hc3 hc4 hc5 hc6
  refine mx_tsOut (n := 145) (mx_da t_X10_clerk 4 rfl) (by have g0 := mx_ne (n := 0) rfl hc0; have g1 := mx_ne (n := 1) rfl hc1; have g2 := mx_ne (n := 2) rfl hc2; have g3 := mx_ne (n := 3) rfl hc3; have g4 := mx_ne (n := 4) rfl hc4; have g5 := mx_ne (n := 5) rfl hc5; have g6 := mx_ne (n := 6) rfl hc6; omega) rfl ?_
  exact mx_thrN 20 155 210 2 rfl (by decide) rfl cl_155 in_NSE (mx_da t_X10_clerk 60 rfl) (mx_da t_X10_clerk 61 rfl) (Or.inl ⟨rfl, (mx_da t_X10_clerk 62 rfl)⟩) (mx_da t_X10_clerk 63 rfl) (mx_da t_X10_clerk 64 rfl) rfl (by decide) h.1 h.2.1 h.2.2
set_option maxHeartbeats 1000000 in
theorem x_X10_mostLooks_0 {d : Nat} {M : mx_M} {Q : mx_O → mx_M → Prop} (T : mx_Tp M) (t : Nat) (ht : mx_Cat t) (ht0 : mx_R M 1 10 = t) (v1 : Int32)
    (h : mx_W m_X10_mostLooks (d + 1) 4 [.ref 1, .int v1, .int 0, .int 0] [] M Q) :
    mx_W m_X10_mostLooks (d + 1) 0 [.ref 1, .int v1, .retAddr 0, .retAddr 0] [] M Q := by
  refine mx_iconst (v := 0) (mx_da t_X10_mostLooks 0 rfl) rfl rfl ?_
  refine mx_istore_n 2 [.ref 1, .int v1, .int 0, .retAddr 0] (mx_da t_X10_mostLooks 1 rfl) rfl rfl (by decide) rfl ?_
  refine mx_iconst (v := 0) (mx_da t_X10_mostLooks 2 rfl) rfl rfl ?_
  refine mx_istore_n 3 [.ref 1, .int v1, .int 0, .int 0] (mx_da t_X10_mostLooks 3 rfl) rfl rfl (by decide) rfl ?_
  exact h
set_option maxHeartbeats 1000000 in
theorem x_X10_mostLooks_4 {d : Nat} {M : mx_M} {Q : mx_O → mx_M → Prop} (T : mx_Tp M) (t : Nat) (ht : mx_Cat t) (ht0 : mx_R M 1 10 = t) (v1 : Int32) (v2 : Int32) (v3 : Int32)
    (h : (((mx_I M t 12) ≤ v3 → Q (.inl (some (.int v2))) M) ∧ (¬ (mx_I M t 12) ≤ v3 → (mx_W m_X5_looksFor d 0 [.ref 31, .ref 24, .int v1, .int v3] [] M (fun o M1 => mx_sh M1 = mx_sh M ∧ mx_R M1 = mx_R M ∧ (∃ x2 : Int32, o = .inl (some (.int x2)) ∧ (mx_W m_J9_max_7cf53 d 0 [.int v2, .int x2] [] M1 (fun o M3 => mx_sh M3 = mx_sh M1 ∧ mx_R M3 = mx_R M1 ∧ (∃ x4 : Int32, o = .inl (some (.int x4)) ∧ mx_W m_X10_mostLooks (d + 1) 4 [.ref 1, .int v1, .int x4, .int (v3 + 1)] [] M3 Q))))))))) :
    mx_W m_X10_mostLooks (d + 1) 4 [.ref 1, .int v1, .int v2, .int v3] [] M Q := by
  refine mx_iload_n 3 (mx_da t_X10_mostLooks 4 rfl) rfl rfl rfl ?_
  refine mx_aload_n 0 (mx_da t_X10_mostLooks 5 rfl) rfl rfl rfl rfl ?_
  refine mx_getR t fs_RX10_71 rfl (tp_s T 1 rfl) ht0 (mx_da t_X10_mostLooks 6 rfl) rfl ?_
  refine mx_getI fs_RX10_148 rfl (cat_s T ht) (mx_da t_X10_mostLooks 7 rfl) rfl ?_
  refine mx_icmp_ge 39 (mx_da t_X10_mostLooks 8 rfl) rfl rfl (fun g9 => ?_) (fun g9 => ?_)
  · have h := h.1 g9
    refine mx_iload_n 2 (mx_da t_X10_mostLooks 21 rfl) rfl rfl rfl ?_
    exact mx_iret rfl (mx_da t_X10_mostLooks 22 rfl) h
  · have h := h.2 g9
    refine mx_iload_n 2 (mx_da t_X10_mostLooks 9 rfl) rfl rfl rfl ?_
    refine mx_aload_n 0 (mx_da t_X10_mostLooks 10 rfl) rfl rfl rfl rfl ?_
    refine mx_getR 31 fs_RX10_37 rfl (tp_s T 1 rfl) (tp_r T 30 rfl) (mx_da t_X10_mostLooks 11 rfl) rfl ?_
    refine mx_aload_n 0 (mx_da t_X10_mostLooks 12 rfl) rfl rfl rfl rfl ?_
    refine mx_getR 24 fs_RX10_30 rfl (tp_s T 1 rfl) (tp_r T 28 rfl) (mx_da t_X10_mostLooks 13 rfl) rfl ?_
    refine mx_iload_n 1 (mx_da t_X10_mostLooks 14 rfl) rfl rfl rfl ?_
    refine mx_iload_n 3 (mx_da t_X10_mostLooks 15 rfl) rfl rfl rfl ?_
    refine mx_callV yX5_looksFor m_X5_looksFor [.ref 24, .int v1, .int v3] mm_X5_looksFor ml_RX10_212 im_X5_looksFor se_X5_looksFor (tp_s T 31 rfl) rfl rfl (Nat.le_of_ble_eq_true rfl) (mx_da t_X10_mostLooks 16 rfl) rfl (Nat.le_of_ble_eq_true rfl) rfl ?_
    refine mx_mono h ?_
    intro o M1 ho
    obtain ⟨e1, e2, ho⟩ := ho
    obtain ⟨x2, rfl, h⟩ := ho
    refine ⟨e1, ?_⟩
    have T := tp_of e1 e2 T
    have ht0 := (congrFun (congrFun e2 1) 10).trans ht0
    clear e1 e2
    show mx_W m_X10_mostLooks (d + 1) 29 [.ref 1, .int v1, .int v2, .int v3] [.int x2, .int v2] M1 Q
    refine mx_callS yJ9_max_7cf53 m_J9_max_7cf53 [.int v2, .int x2] mm_J9_max_7cf53 ml_RX10_216 st_J9_max_7cf53 rfl (Nat.le_of_ble_eq_true rfl) (mx_da t_X10_mostLooks 17 rfl) rfl (Nat.le_of_ble_eq_true rfl) rfl ?_
    refine mx_mono h ?_
    intro o M3 ho
    obtain ⟨e1, e2, ho⟩ := ho
    obtain ⟨x4, rfl, h⟩ := ho
    refine ⟨e1, ?_⟩
    have T := tp_of e1 e2 T
    have ht0 := (congrFun (congrFun e2 1) 10).trans ht0
    clear e1 e2
    show mx_W m_X10_mostLooks (d + 1) 32 [.ref 1, .int v1, .int v2, .int v3] [.int x4] M3 Q
    refine mx_istore_n 2 [.ref 1, .int v1, .int x4, .int v3] (mx_da t_X10_mostLooks 18 rfl) rfl rfl (by decide) rfl ?_
    refine mx_iinc 3 (v := v3 + 1) [.ref 1, .int v1, .int x4, .int (v3 + 1)] (mx_da t_X10_mostLooks 19 rfl) rfl (by decide) rfl rfl rfl ?_
    refine mx_goto (n := 4) (mx_da t_X10_mostLooks 20 rfl) rfl ?_
    exact h
set_option maxHeartbeats 1000000 in
theorem x_X10_needCard_0 {d : Nat} {M : mx_M} {Q : mx_O → mx_M → Prop} (T : mx_Tp M) (t : Nat) (ht : mx_Cat t) (ht0 : mx_R M 1 10 = t) (v1 : Int32)
    (h : ((v1 < 0 → (1 ≤ (mx_rm M).1 ∧ 6 ≤ (mx_rm M).2 ∧ Q (.inr "java/util/NoSuchElementException") (mx_thM M))) ∧ (¬ v1 < 0 → ((v1 < (mx_I M t 12) → Q (.inl none) M) ∧ (¬ v1 < (mx_I M t 12) → (1 ≤ (mx_rm M).1 ∧ 6 ≤ (mx_rm M).2 ∧ Q (.inr "java/util/NoSuchElementException") (mx_thM M))))))) :
    mx_W m_X10_needCard d 0 [.ref 1, .int v1] [] M Q := by
  refine mx_iload_n 1 (mx_da t_X10_needCard 0 rfl) rfl rfl rfl ?_
  refine mx_if_lt 15 (mx_da t_X10_needCard 1 rfl) rfl rfl (fun g9 => ?_) (fun g9 => ?_)
  · have h := h.1 g9
    exact mx_thrN 17 155 221 2 rfl (by decide) rfl cl_155 in_NSE (mx_da t_X10_needCard 7 rfl) (mx_da t_X10_needCard 8 rfl) (Or.inl ⟨rfl, (mx_da t_X10_needCard 9 rfl)⟩) (mx_da t_X10_needCard 10 rfl) (mx_da t_X10_needCard 11 rfl) rfl (by decide) h.1 h.2.1 h.2.2
  · have h := h.2 g9
    refine mx_iload_n 1 (mx_da t_X10_needCard 2 rfl) rfl rfl rfl ?_
    refine mx_aload_n 0 (mx_da t_X10_needCard 3 rfl) rfl rfl rfl rfl ?_
    refine mx_getR t fs_RX10_71 rfl (tp_s T 1 rfl) ht0 (mx_da t_X10_needCard 4 rfl) rfl ?_
    refine mx_getI fs_RX10_148 rfl (cat_s T ht) (mx_da t_X10_needCard 5 rfl) rfl ?_
    refine mx_icmp_lt 25 (mx_da t_X10_needCard 6 rfl) rfl rfl (fun g9 => ?_) (fun g9 => ?_)
    · have h := h.1 g9
      exact mx_vret rfl (mx_da t_X10_needCard 12 rfl) h
    · have h := h.2 g9
      exact mx_thrN 17 155 221 2 rfl (by decide) rfl cl_155 in_NSE (mx_da t_X10_needCard 7 rfl) (mx_da t_X10_needCard 8 rfl) (Or.inl ⟨rfl, (mx_da t_X10_needCard 9 rfl)⟩) (mx_da t_X10_needCard 10 rfl) (mx_da t_X10_needCard 11 rfl) rfl (by decide) h.1 h.2.1 h.2.2
set_option maxHeartbeats 1000000 in
theorem x_X10_needClerk_0 {d : Nat} {M : mx_M} {Q : mx_O → mx_M → Prop} (T : mx_Tp M) (t : Nat) (ht : mx_Cat t) (ht0 : mx_R M 1 10 = t) (v1 : Int32)
    (h : ((v1 < 0 → (1 ≤ (mx_rm M).1 ∧ 6 ≤ (mx_rm M).2 ∧ Q (.inr "java/util/NoSuchElementException") (mx_thM M))) ∧ (¬ v1 < 0 → ((v1 < (mx_I M t 13) → Q (.inl none) M) ∧ (¬ v1 < (mx_I M t 13) → (1 ≤ (mx_rm M).1 ∧ 6 ≤ (mx_rm M).2 ∧ Q (.inr "java/util/NoSuchElementException") (mx_thM M))))))) :
    mx_W m_X10_needClerk d 0 [.ref 1, .int v1] [] M Q := by
  refine mx_iload_n 1 (mx_da t_X10_needClerk 0 rfl) rfl rfl rfl ?_
  refine mx_if_lt 15 (mx_da t_X10_needClerk 1 rfl) rfl rfl (fun g9 => ?_) (fun g9 => ?_)
  · have h := h.1 g9
    exact mx_thrN 19 155 223 2 rfl (by decide) rfl cl_155 in_NSE (mx_da t_X10_needClerk 7 rfl) (mx_da t_X10_needClerk 8 rfl) (Or.inl ⟨rfl, (mx_da t_X10_needClerk 9 rfl)⟩) (mx_da t_X10_needClerk 10 rfl) (mx_da t_X10_needClerk 11 rfl) rfl (by decide) h.1 h.2.1 h.2.2
  · have h := h.2 g9
    refine mx_iload_n 1 (mx_da t_X10_needClerk 2 rfl) rfl rfl rfl ?_
    refine mx_aload_n 0 (mx_da t_X10_needClerk 3 rfl) rfl rfl rfl rfl ?_
    refine mx_getR t fs_RX10_71 rfl (tp_s T 1 rfl) ht0 (mx_da t_X10_needClerk 4 rfl) rfl ?_
    refine mx_getI fs_RX10_130 rfl (cat_s T ht) (mx_da t_X10_needClerk 5 rfl) rfl ?_
    refine mx_icmp_lt 25 (mx_da t_X10_needClerk 6 rfl) rfl rfl (fun g9 => ?_) (fun g9 => ?_)
    · have h := h.1 g9
      exact mx_vret rfl (mx_da t_X10_needClerk 12 rfl) h
    · have h := h.2 g9
      exact mx_thrN 19 155 223 2 rfl (by decide) rfl cl_155 in_NSE (mx_da t_X10_needClerk 7 rfl) (mx_da t_X10_needClerk 8 rfl) (Or.inl ⟨rfl, (mx_da t_X10_needClerk 9 rfl)⟩) (mx_da t_X10_needClerk 10 rfl) (mx_da t_X10_needClerk 11 rfl) rfl (by decide) h.1 h.2.1 h.2.2
set_option maxHeartbeats 1000000 in
theorem x_X10_needZeroOrOne_0 {d : Nat} {M : mx_M} {Q : mx_O → mx_M → Prop} (T : mx_Tp M) (t : Nat) (ht : mx_Cat t) (ht0 : mx_R M 1 10 = t) (v0 : Int32)
    (h : ((v0 = 0 → Q (.inl none) M) ∧ (¬ v0 = 0 → ((v0 = (1 : Int32) → Q (.inl none) M) ∧ (¬ v0 = (1 : Int32) → (1 ≤ (mx_rm M).1 ∧ 6 ≤ (mx_rm M).2 ∧ Q (.inr "java/util/NoSuchElementException") (mx_thM M))))))) :
    mx_W m_X10_needZeroOrOne d 0 [.int v0] [] M Q := by
  refine mx_iload_n 0 (mx_da t_X10_needZeroOrOne 0 rfl) rfl rfl rfl ?_
  refine mx_if_eq 19 (mx_da t_X10_needZeroOrOne 1 rfl) rfl rfl (fun g9 => ?_) (fun g9 => ?_)
  · have h := h.1 g9
    exact mx_vret rfl (mx_da t_X10_needZeroOrOne 10 rfl) h
  · have h := h.2 g9
    refine mx_iload_n 0 (mx_da t_X10_needZeroOrOne 2 rfl) rfl rfl rfl ?_
    refine mx_iconst (v := 1) (mx_da t_X10_needZeroOrOne 3 rfl) rfl rfl ?_
    refine mx_icmp_eq 19 (mx_da t_X10_needZeroOrOne 4 rfl) rfl rfl (fun g9 => ?_) (fun g9 => ?_)
    · have h := h.1 g9
      exact mx_vret rfl (mx_da t_X10_needZeroOrOne 10 rfl) h
    · have h := h.2 g9
      exact mx_thrN 24 155 225 2 rfl (by decide) rfl cl_155 in_NSE (mx_da t_X10_needZeroOrOne 5 rfl) (mx_da t_X10_needZeroOrOne 6 rfl) (Or.inl ⟨rfl, (mx_da t_X10_needZeroOrOne 7 rfl)⟩) (mx_da t_X10_needZeroOrOne 8 rfl) (mx_da t_X10_needZeroOrOne 9 rfl) rfl (by decide) h.1 h.2.1 h.2.2
set_option maxHeartbeats 1000000 in
theorem x_X10_key_0 {d : Nat} {M : mx_M} {Q : mx_O → mx_M → Prop} (T : mx_Tp M) (t : Nat) (ht : mx_Cat t) (ht0 : mx_R M 1 10 = t) (v1 : Int32) (v2 : Int32) (v3 : Int32)
    (h : (mx_W m_X10_needClerk d 0 [.ref 1, .int v1] [] M (fun o M1 => mx_sh M1 = mx_sh M ∧ mx_R M1 = mx_R M ∧ ((o = .inl none ∧ (mx_W m_X10_needCard d 0 [.ref 1, .int v2] [] M1 (fun o M2 => mx_sh M2 = mx_sh M1 ∧ mx_R M2 = mx_R M1 ∧ ((o = .inl none ∧ (mx_W m_X3_keyLength d 0 [.ref 24, .int v1, .int v2] [] M2 (fun o M3 => mx_sh M3 = mx_sh M2 ∧ mx_R M3 = mx_R M2 ∧ (∃ x4 : Int32, o = .inl (some (.int x4)) ∧ ((¬ v3 = (-1 : Int32) → ((v3 < 0 → (1 ≤ (mx_rm M3).1 ∧ 6 ≤ (mx_rm M3).2 ∧ Q (.inr "java/util/NoSuchElementException") (mx_thM M3))) ∧ (¬ v3 < 0 → ((v3 < x4 → (mx_W m_X3_keySign d 0 [.ref 24, .int v1, .int v2, .int v3] [] M3 (fun o M5 => mx_sh M5 = mx_sh M3 ∧ mx_R M5 = mx_R M3 ∧ (∃ x6 : Int32, o = .inl (some (.int x6)) ∧ Q (.inl (some (.int x6))) M5)))) ∧ (¬ v3 < x4 → (1 ≤ (mx_rm M3).1 ∧ 6 ≤ (mx_rm M3).2 ∧ Q (.inr "java/util/NoSuchElementException") (mx_thM M3))))))) ∧ (v3 = (-1 : Int32) → Q (.inl (some (.int x4))) M3)))))) ∨ ∃ E, o = .inr E ∧ Q (.inr E) M2)))) ∨ ∃ E, o = .inr E ∧ Q (.inr E) M1)))) :
    mx_W m_X10_key (d + 1) 0 [.ref 1, .int v1, .int v2, .int v3, .retAddr 0] [] M Q := by
  refine mx_aload_n 0 (mx_da t_X10_key 0 rfl) rfl rfl rfl rfl ?_
  refine mx_iload_n 1 (mx_da t_X10_key 1 rfl) rfl rfl rfl ?_
  refine mx_callV yX10_needClerk m_X10_needClerk [.int v1] mm_X10_needClerk ml_RX10_184 im_X10_needClerk se_X10_needClerk (tp_s T 1 rfl) rfl rfl (Nat.le_of_ble_eq_true rfl) (mx_da t_X10_key 2 rfl) rfl (Nat.le_of_ble_eq_true rfl) rfl ?_
  refine mx_mono h ?_
  intro o M1 ho
  obtain ⟨e1, e2, ho⟩ := ho
  rcases ho with ⟨rfl, h⟩ | ⟨E, rfl, h⟩
  rotate_left
  · exact ⟨e1, h⟩
  refine ⟨e1, ?_⟩
  have T := tp_of e1 e2 T
  have ht0 := (congrFun (congrFun e2 1) 10).trans ht0
  clear e1 e2
  show mx_W m_X10_key (d + 1) 5 [.ref 1, .int v1, .int v2, .int v3, .retAddr 0] [] M1 Q
  refine mx_aload_n 0 (mx_da t_X10_key 3 rfl) rfl rfl rfl rfl ?_
  refine mx_iload_n 2 (mx_da t_X10_key 4 rfl) rfl rfl rfl ?_
  refine mx_callV yX10_needCard m_X10_needCard [.int v2] mm_X10_needCard ml_RX10_160 im_X10_needCard se_X10_needCard (tp_s T 1 rfl) rfl rfl (Nat.le_of_ble_eq_true rfl) (mx_da t_X10_key 5 rfl) rfl (Nat.le_of_ble_eq_true rfl) rfl ?_
  refine mx_mono h ?_
  intro o M2 ho
  obtain ⟨e1, e2, ho⟩ := ho
  rcases ho with ⟨rfl, h⟩ | ⟨E, rfl, h⟩
  rotate_left
  · exact ⟨e1, h⟩
  refine ⟨e1, ?_⟩
  have T := tp_of e1 e2 T
  have ht0 := (congrFun (congrFun e2 1) 10).trans ht0
  clear e1 e2
  show mx_W m_X10_key (d + 1) 10 [.ref 1, .int v1, .int v2, .int v3, .retAddr 0] [] M2 Q
  refine mx_aload_n 0 (mx_da t_X10_key 6 rfl) rfl rfl rfl rfl ?_
  refine mx_getR 24 fs_RX10_30 rfl (tp_s T 1 rfl) (tp_r T 28 rfl) (mx_da t_X10_key 7 rfl) rfl ?_
  refine mx_iload_n 1 (mx_da t_X10_key 8 rfl) rfl rfl rfl ?_
  refine mx_iload_n 2 (mx_da t_X10_key 9 rfl) rfl rfl rfl ?_
  refine mx_callV yX3_keyLength m_X3_keyLength [.int v1, .int v2] mm_X3_keyLength ml_RX10_227 im_X3_keyLength se_X3_keyLength (tp_s T 24 rfl) rfl rfl (Nat.le_of_ble_eq_true rfl) (mx_da t_X10_key 10 rfl) rfl (Nat.le_of_ble_eq_true rfl) rfl ?_
  refine mx_mono h ?_
  intro o M3 ho
  obtain ⟨e1, e2, ho⟩ := ho
  obtain ⟨x4, rfl, h⟩ := ho
  refine ⟨e1, ?_⟩
  have T := tp_of e1 e2 T
  have ht0 := (congrFun (congrFun e2 1) 10).trans ht0
  clear e1 e2
  show mx_W m_X10_key (d + 1) 19 [.ref 1, .int v1, .int v2, .int v3, .retAddr 0] [.int x4] M3 Q
  refine mx_istore 4 [.ref 1, .int v1, .int v2, .int v3, .int x4] (mx_da t_X10_key 11 rfl) rfl (by decide) rfl ?_
  refine mx_iload_n 3 (mx_da t_X10_key 12 rfl) rfl rfl rfl ?_
  refine mx_iconst (v := (-1)) (mx_da t_X10_key 13 rfl) rfl rfl ?_
  refine mx_icmp_ne 29 (mx_da t_X10_key 14 rfl) rfl rfl (fun g9 => ?_) (fun g9 => ?_)
  · have h := h.1 g9
    refine mx_iload_n 3 (mx_da t_X10_key 17 rfl) rfl rfl rfl ?_
    refine mx_if_lt 39 (mx_da t_X10_key 18 rfl) rfl rfl (fun g9 => ?_) (fun g9 => ?_)
    · have h := h.1 g9
      exact mx_thrN 21 155 230 2 rfl (by decide) rfl cl_155 in_NSE (mx_da t_X10_key 22 rfl) (mx_da t_X10_key 23 rfl) (Or.inl ⟨rfl, (mx_da t_X10_key 24 rfl)⟩) (mx_da t_X10_key 25 rfl) (mx_da t_X10_key 26 rfl) rfl (by decide) h.1 h.2.1 h.2.2
    · have h := h.2 g9
      refine mx_iload_n 3 (mx_da t_X10_key 19 rfl) rfl rfl rfl ?_
      refine mx_iload 4 (mx_da t_X10_key 20 rfl) rfl rfl ?_
      refine mx_icmp_lt 49 (mx_da t_X10_key 21 rfl) rfl rfl (fun g9 => ?_) (fun g9 => ?_)
      · have h := h.1 g9
        refine mx_aload_n 0 (mx_da t_X10_key 27 rfl) rfl rfl rfl rfl ?_
        refine mx_getR 24 fs_RX10_30 rfl (tp_s T 1 rfl) (tp_r T 28 rfl) (mx_da t_X10_key 28 rfl) rfl ?_
        refine mx_iload_n 1 (mx_da t_X10_key 29 rfl) rfl rfl rfl ?_
        refine mx_iload_n 2 (mx_da t_X10_key 30 rfl) rfl rfl rfl ?_
        refine mx_iload_n 3 (mx_da t_X10_key 31 rfl) rfl rfl rfl ?_
        refine mx_callV yX3_keySign m_X3_keySign [.int v1, .int v2, .int v3] mm_X3_keySign ml_RX10_232 im_X3_keySign se_X3_keySign (tp_s T 24 rfl) rfl rfl (Nat.le_of_ble_eq_true rfl) (mx_da t_X10_key 32 rfl) rfl (Nat.le_of_ble_eq_true rfl) rfl ?_
        refine mx_mono h ?_
        intro o M5 ho
        obtain ⟨e1, e2, ho⟩ := ho
        obtain ⟨x6, rfl, h⟩ := ho
        refine ⟨e1, ?_⟩
        have T := tp_of e1 e2 T
        have ht0 := (congrFun (congrFun e2 1) 10).trans ht0
        clear e1 e2
        show mx_W m_X10_key (d + 1) 59 [.ref 1, .int v1, .int v2, .int v3, .int x4] [.int x6] M5 Q
        exact mx_iret rfl (mx_da t_X10_key 33 rfl) h
      · have h := h.2 g9
        exact mx_thrN 21 155 230 2 rfl (by decide) rfl cl_155 in_NSE (mx_da t_X10_key 22 rfl) (mx_da t_X10_key 23 rfl) (Or.inl ⟨rfl, (mx_da t_X10_key 24 rfl)⟩) (mx_da t_X10_key 25 rfl) (mx_da t_X10_key 26 rfl) rfl (by decide) h.1 h.2.1 h.2.2
  · have h := h.2 g9
    refine mx_iload 4 (mx_da t_X10_key 15 rfl) rfl rfl ?_
    exact mx_iret rfl (mx_da t_X10_key 16 rfl) h
set_option maxHeartbeats 1000000 in
theorem x_X10_before_0 {d : Nat} {M : mx_M} {Q : mx_O → mx_M → Prop} (T : mx_Tp M) (t : Nat) (ht : mx_Cat t) (ht0 : mx_R M 1 10 = t) (v1 : Int32) (v2 : Int32) (v3 : Int32)
    (h : (mx_W m_X10_needClerk d 0 [.ref 1, .int v1] [] M (fun o M1 => mx_sh M1 = mx_sh M ∧ mx_R M1 = mx_R M ∧ ((o = .inl none ∧ (mx_W m_X10_needCard d 0 [.ref 1, .int v2] [] M1 (fun o M2 => mx_sh M2 = mx_sh M1 ∧ mx_R M2 = mx_R M1 ∧ ((o = .inl none ∧ (mx_W m_X10_needCard d 0 [.ref 1, .int v3] [] M2 (fun o M3 => mx_sh M3 = mx_sh M2 ∧ mx_R M3 = mx_R M2 ∧ ((o = .inl none ∧ (mx_W m_X3_isAhead d 0 [.ref 24, .int v1, .int v2, .int v3] [] M3 (fun o M4 => mx_sh M4 = mx_sh M3 ∧ mx_R M4 = mx_R M3 ∧ (∃ x5 : Bool, o = .inl (some (.int (mx_b x5))) ∧ Q (.inl (some (.int (mx_b x5)))) M4)))) ∨ ∃ E, o = .inr E ∧ Q (.inr E) M3)))) ∨ ∃ E, o = .inr E ∧ Q (.inr E) M2)))) ∨ ∃ E, o = .inr E ∧ Q (.inr E) M1)))) :
    mx_W m_X10_before (d + 1) 0 [.ref 1, .int v1, .int v2, .int v3] [] M Q := by
  refine mx_aload_n 0 (mx_da t_X10_before 0 rfl) rfl rfl rfl rfl ?_
  refine mx_iload_n 1 (mx_da t_X10_before 1 rfl) rfl rfl rfl ?_
  refine mx_callV yX10_needClerk m_X10_needClerk [.int v1] mm_X10_needClerk ml_RX10_184 im_X10_needClerk se_X10_needClerk (tp_s T 1 rfl) rfl rfl (Nat.le_of_ble_eq_true rfl) (mx_da t_X10_before 2 rfl) rfl (Nat.le_of_ble_eq_true rfl) rfl ?_
  refine mx_mono h ?_
  intro o M1 ho
  obtain ⟨e1, e2, ho⟩ := ho
  rcases ho with ⟨rfl, h⟩ | ⟨E, rfl, h⟩
  rotate_left
  · exact ⟨e1, h⟩
  refine ⟨e1, ?_⟩
  have T := tp_of e1 e2 T
  have ht0 := (congrFun (congrFun e2 1) 10).trans ht0
  clear e1 e2
  show mx_W m_X10_before (d + 1) 5 [.ref 1, .int v1, .int v2, .int v3] [] M1 Q
  refine mx_aload_n 0 (mx_da t_X10_before 3 rfl) rfl rfl rfl rfl ?_
  refine mx_iload_n 2 (mx_da t_X10_before 4 rfl) rfl rfl rfl ?_
  refine mx_callV yX10_needCard m_X10_needCard [.int v2] mm_X10_needCard ml_RX10_160 im_X10_needCard se_X10_needCard (tp_s T 1 rfl) rfl rfl (Nat.le_of_ble_eq_true rfl) (mx_da t_X10_before 5 rfl) rfl (Nat.le_of_ble_eq_true rfl) rfl ?_
  refine mx_mono h ?_
  intro o M2 ho
  obtain ⟨e1, e2, ho⟩ := ho
  rcases ho with ⟨rfl, h⟩ | ⟨E, rfl, h⟩
  rotate_left
  · exact ⟨e1, h⟩
  refine ⟨e1, ?_⟩
  have T := tp_of e1 e2 T
  have ht0 := (congrFun (congrFun e2 1) 10).trans ht0
  clear e1 e2
  show mx_W m_X10_before (d + 1) 10 [.ref 1, .int v1, .int v2, .int v3] [] M2 Q
  refine mx_aload_n 0 (mx_da t_X10_before 6 rfl) rfl rfl rfl rfl ?_
  refine mx_iload_n 3 (mx_da t_X10_before 7 rfl) rfl rfl rfl ?_
  refine mx_callV yX10_needCard m_X10_needCard [.int v3] mm_X10_needCard ml_RX10_160 im_X10_needCard se_X10_needCard (tp_s T 1 rfl) rfl rfl (Nat.le_of_ble_eq_true rfl) (mx_da t_X10_before 8 rfl) rfl (Nat.le_of_ble_eq_true rfl) rfl ?_
  refine mx_mono h ?_
  intro o M3 ho
  obtain ⟨e1, e2, ho⟩ := ho
  rcases ho with ⟨rfl, h⟩ | ⟨E, rfl, h⟩
  rotate_left
  · exact ⟨e1, h⟩
  refine ⟨e1, ?_⟩
  have T := tp_of e1 e2 T
  have ht0 := (congrFun (congrFun e2 1) 10).trans ht0
  clear e1 e2
  show mx_W m_X10_before (d + 1) 15 [.ref 1, .int v1, .int v2, .int v3] [] M3 Q
  refine mx_aload_n 0 (mx_da t_X10_before 9 rfl) rfl rfl rfl rfl ?_
  refine mx_getR 24 fs_RX10_30 rfl (tp_s T 1 rfl) (tp_r T 28 rfl) (mx_da t_X10_before 10 rfl) rfl ?_
  refine mx_iload_n 1 (mx_da t_X10_before 11 rfl) rfl rfl rfl ?_
  refine mx_iload_n 2 (mx_da t_X10_before 12 rfl) rfl rfl rfl ?_
  refine mx_iload_n 3 (mx_da t_X10_before 13 rfl) rfl rfl rfl ?_
  refine mx_callV yX3_isAhead m_X3_isAhead [.int v1, .int v2, .int v3] mm_X3_isAhead ml_RX10_236 im_X3_isAhead se_X3_isAhead (tp_s T 24 rfl) rfl rfl (Nat.le_of_ble_eq_true rfl) (mx_da t_X10_before 14 rfl) rfl (Nat.le_of_ble_eq_true rfl) rfl ?_
  refine mx_mono h ?_
  intro o M4 ho
  obtain ⟨e1, e2, ho⟩ := ho
  obtain ⟨x5, rfl, h⟩ := ho
  refine ⟨e1, ?_⟩
  have T := tp_of e1 e2 T
  have ht0 := (congrFun (congrFun e2 1) 10).trans ht0
  clear e1 e2
  show mx_W m_X10_before (d + 1) 25 [.ref 1, .int v1, .int v2, .int v3] [.int (mx_b x5)] M4 Q
  exact mx_zret rfl (mx_bz _) (mx_da t_X10_before 15 rfl) h
set_option maxHeartbeats 1000000 in
theorem x_X10_rank_0 {d : Nat} {M : mx_M} {Q : mx_O → mx_M → Prop} (T : mx_Tp M) (t : Nat) (ht : mx_Cat t) (ht0 : mx_R M 1 10 = t) (v1 : Int32) (v2 : Int32)
    (h : (mx_W m_X10_needClerk d 0 [.ref 1, .int v1] [] M (fun o M1 => mx_sh M1 = mx_sh M ∧ mx_R M1 = mx_R M ∧ ((o = .inl none ∧ (mx_W m_X10_needCard d 0 [.ref 1, .int v2] [] M1 (fun o M2 => mx_sh M2 = mx_sh M1 ∧ mx_R M2 = mx_R M1 ∧ ((o = .inl none ∧ (mx_W m_X3_rankOf d 0 [.ref 24, .int v1, .int v2] [] M2 (fun o M3 => mx_sh M3 = mx_sh M2 ∧ mx_R M3 = mx_R M2 ∧ (∃ x4 : Int32, o = .inl (some (.int x4)) ∧ Q (.inl (some (.int x4))) M3)))) ∨ ∃ E, o = .inr E ∧ Q (.inr E) M2)))) ∨ ∃ E, o = .inr E ∧ Q (.inr E) M1)))) :
    mx_W m_X10_rank (d + 1) 0 [.ref 1, .int v1, .int v2] [] M Q := by
  refine mx_aload_n 0 (mx_da t_X10_rank 0 rfl) rfl rfl rfl rfl ?_
  refine mx_iload_n 1 (mx_da t_X10_rank 1 rfl) rfl rfl rfl ?_
  refine mx_callV yX10_needClerk m_X10_needClerk [.int v1] mm_X10_needClerk ml_RX10_184 im_X10_needClerk se_X10_needClerk (tp_s T 1 rfl) rfl rfl (Nat.le_of_ble_eq_true rfl) (mx_da t_X10_rank 2 rfl) rfl (Nat.le_of_ble_eq_true rfl) rfl ?_
  refine mx_mono h ?_
  intro o M1 ho
  obtain ⟨e1, e2, ho⟩ := ho
  rcases ho with ⟨rfl, h⟩ | ⟨E, rfl, h⟩
  rotate_left
  · exact ⟨e1, h⟩
  refine ⟨e1, ?_⟩
  have T := tp_of e1 e2 T
  have ht0 := (congrFun (congrFun e2 1) 10).trans ht0
  clear e1 e2
  show mx_W m_X10_rank (d + 1) 5 [.ref 1, .int v1, .int v2] [] M1 Q
  refine mx_aload_n 0 (mx_da t_X10_rank 3 rfl) rfl rfl rfl rfl ?_
  refine mx_iload_n 2 (mx_da t_X10_rank 4 rfl) rfl rfl rfl ?_
  refine mx_callV yX10_needCard m_X10_needCard [.int v2] mm_X10_needCard ml_RX10_160 im_X10_needCard se_X10_needCard (tp_s T 1 rfl) rfl rfl (Nat.le_of_ble_eq_true rfl) (mx_da t_X10_rank 5 rfl) rfl (Nat.le_of_ble_eq_true rfl) rfl ?_
  refine mx_mono h ?_
  intro o M2 ho
  obtain ⟨e1, e2, ho⟩ := ho
  rcases ho with ⟨rfl, h⟩ | ⟨E, rfl, h⟩
  rotate_left
  · exact ⟨e1, h⟩
  refine ⟨e1, ?_⟩
  have T := tp_of e1 e2 T
  have ht0 := (congrFun (congrFun e2 1) 10).trans ht0
  clear e1 e2
  show mx_W m_X10_rank (d + 1) 10 [.ref 1, .int v1, .int v2] [] M2 Q
  refine mx_aload_n 0 (mx_da t_X10_rank 6 rfl) rfl rfl rfl rfl ?_
  refine mx_getR 24 fs_RX10_30 rfl (tp_s T 1 rfl) (tp_r T 28 rfl) (mx_da t_X10_rank 7 rfl) rfl ?_
  refine mx_iload_n 1 (mx_da t_X10_rank 8 rfl) rfl rfl rfl ?_
  refine mx_iload_n 2 (mx_da t_X10_rank 9 rfl) rfl rfl rfl ?_
  refine mx_callV yX3_rankOf m_X3_rankOf [.int v1, .int v2] mm_X3_rankOf ml_RX10_180 im_X3_rankOf se_X3_rankOf (tp_s T 24 rfl) rfl rfl (Nat.le_of_ble_eq_true rfl) (mx_da t_X10_rank 10 rfl) rfl (Nat.le_of_ble_eq_true rfl) rfl ?_
  refine mx_mono h ?_
  intro o M3 ho
  obtain ⟨e1, e2, ho⟩ := ho
  obtain ⟨x4, rfl, h⟩ := ho
  refine ⟨e1, ?_⟩
  have T := tp_of e1 e2 T
  have ht0 := (congrFun (congrFun e2 1) 10).trans ht0
  clear e1 e2
  show mx_W m_X10_rank (d + 1) 19 [.ref 1, .int v1, .int v2] [.int x4] M3 Q
  exact mx_iret rfl (mx_da t_X10_rank 11 rfl) h
set_option maxHeartbeats 1000000 in
theorem x_X10_at_0 {d : Nat} {M : mx_M} {Q : mx_O → mx_M → Prop} (T : mx_Tp M) (t : Nat) (ht : mx_Cat t) (ht0 : mx_R M 1 10 = t) (v1 : Int32) (v2 : Int32)
    (h : (mx_W m_X10_needClerk d 0 [.ref 1, .int v1] [] M (fun o M1 => mx_sh M1 = mx_sh M ∧ mx_R M1 = mx_R M ∧ ((o = .inl none ∧ ((v2 < 0 → (1 ≤ (mx_rm M1).1 ∧ 6 ≤ (mx_rm M1).2 ∧ Q (.inr "java/util/NoSuchElementException") (mx_thM M1))) ∧ (¬ v2 < 0 → ((v2 < (mx_I M1 t 12) → (mx_W m_X3_cardOfRank d 0 [.ref 24, .int v1, .int v2] [] M1 (fun o M2 => mx_sh M2 = mx_sh M1 ∧ mx_R M2 = mx_R M1 ∧ (∃ x3 : Int32, o = .inl (some (.int x3)) ∧ Q (.inl (some (.int x3))) M2)))) ∧ (¬ v2 < (mx_I M1 t 12) → (1 ≤ (mx_rm M1).1 ∧ 6 ≤ (mx_rm M1).2 ∧ Q (.inr "java/util/NoSuchElementException") (mx_thM M1))))))) ∨ ∃ E, o = .inr E ∧ Q (.inr E) M1)))) :
    mx_W m_X10_at (d + 1) 0 [.ref 1, .int v1, .int v2] [] M Q := by
  refine mx_aload_n 0 (mx_da t_X10_at 0 rfl) rfl rfl rfl rfl ?_
  refine mx_iload_n 1 (mx_da t_X10_at 1 rfl) rfl rfl rfl ?_
  refine mx_callV yX10_needClerk m_X10_needClerk [.int v1] mm_X10_needClerk ml_RX10_184 im_X10_needClerk se_X10_needClerk (tp_s T 1 rfl) rfl rfl (Nat.le_of_ble_eq_true rfl) (mx_da t_X10_at 2 rfl) rfl (Nat.le_of_ble_eq_true rfl) rfl ?_
  refine mx_mono h ?_
  intro o M1 ho
  obtain ⟨e1, e2, ho⟩ := ho
  rcases ho with ⟨rfl, h⟩ | ⟨E, rfl, h⟩
  rotate_left
  · exact ⟨e1, h⟩
  refine ⟨e1, ?_⟩
  have T := tp_of e1 e2 T
  have ht0 := (congrFun (congrFun e2 1) 10).trans ht0
  clear e1 e2
  show mx_W m_X10_at (d + 1) 5 [.ref 1, .int v1, .int v2] [] M1 Q
  refine mx_iload_n 2 (mx_da t_X10_at 3 rfl) rfl rfl rfl ?_
  refine mx_if_lt 20 (mx_da t_X10_at 4 rfl) rfl rfl (fun g9 => ?_) (fun g9 => ?_)
  · have h := h.1 g9
    exact mx_thrN 22 155 240 2 rfl (by decide) rfl cl_155 in_NSE (mx_da t_X10_at 10 rfl) (mx_da t_X10_at 11 rfl) (Or.inl ⟨rfl, (mx_da t_X10_at 12 rfl)⟩) (mx_da t_X10_at 13 rfl) (mx_da t_X10_at 14 rfl) rfl (by decide) h.1 h.2.1 h.2.2
  · have h := h.2 g9
    refine mx_iload_n 2 (mx_da t_X10_at 5 rfl) rfl rfl rfl ?_
    refine mx_aload_n 0 (mx_da t_X10_at 6 rfl) rfl rfl rfl rfl ?_
    refine mx_getR t fs_RX10_71 rfl (tp_s T 1 rfl) ht0 (mx_da t_X10_at 7 rfl) rfl ?_
    refine mx_getI fs_RX10_148 rfl (cat_s T ht) (mx_da t_X10_at 8 rfl) rfl ?_
    refine mx_icmp_lt 30 (mx_da t_X10_at 9 rfl) rfl rfl (fun g9 => ?_) (fun g9 => ?_)
    · have h := h.1 g9
      refine mx_aload_n 0 (mx_da t_X10_at 15 rfl) rfl rfl rfl rfl ?_
      refine mx_getR 24 fs_RX10_30 rfl (tp_s T 1 rfl) (tp_r T 28 rfl) (mx_da t_X10_at 16 rfl) rfl ?_
      refine mx_iload_n 1 (mx_da t_X10_at 17 rfl) rfl rfl rfl ?_
      refine mx_iload_n 2 (mx_da t_X10_at 18 rfl) rfl rfl rfl ?_
      refine mx_callV yX3_cardOfRank m_X3_cardOfRank [.int v1, .int v2] mm_X3_cardOfRank ml_RX10_242 im_X3_cardOfRank se_X3_cardOfRank (tp_s T 24 rfl) rfl rfl (Nat.le_of_ble_eq_true rfl) (mx_da t_X10_at 19 rfl) rfl (Nat.le_of_ble_eq_true rfl) rfl ?_
      refine mx_mono h ?_
      intro o M2 ho
      obtain ⟨e1, e2, ho⟩ := ho
      obtain ⟨x3, rfl, h⟩ := ho
      refine ⟨e1, ?_⟩
      have T := tp_of e1 e2 T
      have ht0 := (congrFun (congrFun e2 1) 10).trans ht0
      clear e1 e2
      show mx_W m_X10_at (d + 1) 39 [.ref 1, .int v1, .int v2] [.int x3] M2 Q
      exact mx_iret rfl (mx_da t_X10_at 20 rfl) h
    · have h := h.2 g9
      exact mx_thrN 22 155 240 2 rfl (by decide) rfl cl_155 in_NSE (mx_da t_X10_at 10 rfl) (mx_da t_X10_at 11 rfl) (Or.inl ⟨rfl, (mx_da t_X10_at 12 rfl)⟩) (mx_da t_X10_at 13 rfl) (mx_da t_X10_at 14 rfl) rfl (by decide) h.1 h.2.1 h.2.2
set_option maxHeartbeats 1000000 in
theorem x_X10_drawer_0 {d : Nat} {M : mx_M} {Q : mx_O → mx_M → Prop} (T : mx_Tp M) (t : Nat) (ht : mx_Cat t) (ht0 : mx_R M 1 10 = t) (v1 : Int32)
    (h : ((v1 < 0 → (1 ≤ (mx_rm M).1 ∧ 6 ≤ (mx_rm M).2 ∧ Q (.inr "java/util/NoSuchElementException") (mx_thM M))) ∧ (¬ v1 < 0 → ((v1 < (mx_I M 31 1) → (vp_in v1 10 ∧ Q (.inl (some (.int (mx_I M 32 v1.toNatClampNeg)))) M)) ∧ (¬ v1 < (mx_I M 31 1) → (1 ≤ (mx_rm M).1 ∧ 6 ≤ (mx_rm M).2 ∧ Q (.inr "java/util/NoSuchElementException") (mx_thM M))))))) :
    mx_W m_X10_drawer d 0 [.ref 1, .int v1] [] M Q := by
  refine mx_iload_n 1 (mx_da t_X10_drawer 0 rfl) rfl rfl rfl ?_
  refine mx_if_lt 15 (mx_da t_X10_drawer 1 rfl) rfl rfl (fun g9 => ?_) (fun g9 => ?_)
  · have h := h.1 g9
    exact mx_thrN 23 155 245 2 rfl (by decide) rfl cl_155 in_NSE (mx_da t_X10_drawer 7 rfl) (mx_da t_X10_drawer 8 rfl) (Or.inl ⟨rfl, (mx_da t_X10_drawer 9 rfl)⟩) (mx_da t_X10_drawer 10 rfl) (mx_da t_X10_drawer 11 rfl) rfl (by decide) h.1 h.2.1 h.2.2
  · have h := h.2 g9
    refine mx_iload_n 1 (mx_da t_X10_drawer 2 rfl) rfl rfl rfl ?_
    refine mx_aload_n 0 (mx_da t_X10_drawer 3 rfl) rfl rfl rfl rfl ?_
    refine mx_getR 31 fs_RX10_37 rfl (tp_s T 1 rfl) (tp_r T 30 rfl) (mx_da t_X10_drawer 4 rfl) rfl ?_
    refine mx_getI fs_RX10_144 rfl (tp_s T 31 rfl) (mx_da t_X10_drawer 5 rfl) rfl ?_
    refine mx_icmp_lt 25 (mx_da t_X10_drawer 6 rfl) rfl rfl (fun g9 => ?_) (fun g9 => ?_)
    · have h := h.1 g9
      refine mx_aload_n 0 (mx_da t_X10_drawer 12 rfl) rfl rfl rfl rfl ?_
      refine mx_getR 31 fs_RX10_37 rfl (tp_s T 1 rfl) (tp_r T 30 rfl) (mx_da t_X10_drawer 13 rfl) rfl ?_
      refine mx_getR 32 fs_RX10_247 rfl (tp_s T 31 rfl) (tp_r T 29 rfl) (mx_da t_X10_drawer 14 rfl) rfl ?_
      refine mx_iload_n 1 (mx_da t_X10_drawer 15 rfl) rfl rfl rfl ?_
      refine mx_iald (tp_s T 32 rfl) h.1 (mx_da t_X10_drawer 16 rfl) rfl ?_
      have h := h.2
      exact mx_iret rfl (mx_da t_X10_drawer 17 rfl) h
    · have h := h.2 g9
      exact mx_thrN 23 155 245 2 rfl (by decide) rfl cl_155 in_NSE (mx_da t_X10_drawer 7 rfl) (mx_da t_X10_drawer 8 rfl) (Or.inl ⟨rfl, (mx_da t_X10_drawer 9 rfl)⟩) (mx_da t_X10_drawer 10 rfl) (mx_da t_X10_drawer 11 rfl) rfl (by decide) h.1 h.2.1 h.2.2
set_option maxHeartbeats 1000000 in
theorem x_X10_put_0 {d : Nat} {M : mx_M} {Q : mx_O → mx_M → Prop} (T : mx_Tp M) (t : Nat) (ht : mx_Cat t) (ht0 : mx_R M 1 10 = t) (v1 : Int32) (v2 : Int32)
    (h : (mx_W m_X10_needCard d 0 [.ref 1, .int v1] [] M (fun o M1 => mx_sh M1 = mx_sh M ∧ mx_R M1 = mx_R M ∧ ((o = .inl none ∧ (mx_W m_X10_needClerk d 0 [.ref 1, .int v2] [] M1 (fun o M2 => mx_sh M2 = mx_sh M1 ∧ mx_R M2 = mx_R M1 ∧ ((o = .inl none ∧ (mx_W m_X5_placeOf d 0 [.ref 31, .int v1, .retAddr 0] [] M2 (fun o M3 => mx_sh M3 = mx_sh M2 ∧ mx_R M3 = mx_R M2 ∧ (∃ x4 : Int32, o = .inl (some (.int x4)) ∧ ((x4 = (-1 : Int32) → (mx_W m_X5_placeFor d 0 [.ref 31, .ref 24, .int v2, .int v1, .retAddr 0] [] M3 (fun o M5 => mx_sh M5 = mx_sh M3 ∧ mx_R M5 = mx_R M3 ∧ (∃ x6 : Int32, o = .inl (some (.int x6)) ∧ (mx_W m_X5_packed d 0 [.ref 31, .retAddr 0, .retAddr 0, .retAddr 0] [] M5 (fun o M7 => mx_sh M7 = mx_sh M5 ∧ mx_R M7 = mx_R M5 ∧ (∃ x8 : Int64, o = .inl (some (.long x8)) ∧ (mx_W m_X0_keep d 0 [.ref 35, .long x8, .retAddr 0] [] M7 (fun o M9 => mx_sh M9 = mx_sh M7 ∧ mx_R M9 = mx_R M7 ∧ (o = .inl none ∧ (mx_W m_X5_insert d 0 [.ref 31, .int x6, .int v1, .retAddr 0] [] M9 (fun o M10 => mx_sh M10 = mx_sh M9 ∧ mx_R M10 = mx_R M9 ∧ (o = .inl none ∧ Q (.inl (some (.int x6))) M10))))))))))))) ∧ (¬ x4 = (-1 : Int32) → (mx_W m_X10_refuseAct d 0 [.ref 1] [] M3 (fun o M11 => mx_sh M11 = mx_sh M3 ∧ mx_R M11 = mx_R M3 ∧ (∃ x12 : Int32, o = .inl (some (.int x12)) ∧ Q (.inl (some (.int x12))) M11))))))))) ∨ ∃ E, o = .inr E ∧ Q (.inr E) M2)))) ∨ ∃ E, o = .inr E ∧ Q (.inr E) M1)))) :
    mx_W m_X10_put (d + 1) 0 [.ref 1, .int v1, .int v2, .retAddr 0] [] M Q := by
  refine mx_aload_n 0 (mx_da t_X10_put 0 rfl) rfl rfl rfl rfl ?_
  refine mx_iload_n 1 (mx_da t_X10_put 1 rfl) rfl rfl rfl ?_
  refine mx_callV yX10_needCard m_X10_needCard [.int v1] mm_X10_needCard ml_RX10_160 im_X10_needCard se_X10_needCard (tp_s T 1 rfl) rfl rfl (Nat.le_of_ble_eq_true rfl) (mx_da t_X10_put 2 rfl) rfl (Nat.le_of_ble_eq_true rfl) rfl ?_
  refine mx_mono h ?_
  intro o M1 ho
  obtain ⟨e1, e2, ho⟩ := ho
  rcases ho with ⟨rfl, h⟩ | ⟨E, rfl, h⟩
  rotate_left
  · exact ⟨e1, h⟩
  refine ⟨e1, ?_⟩
  have T := tp_of e1 e2 T
  have ht0 := (congrFun (congrFun e2 1) 10).trans ht0
  clear e1 e2
  show mx_W m_X10_put (d + 1) 5 [.ref 1, .int v1, .int v2, .retAddr 0] [] M1 Q
  refine mx_aload_n 0 (mx_da t_X10_put 3 rfl) rfl rfl rfl rfl ?_
  refine mx_iload_n 2 (mx_da t_X10_put 4 rfl) rfl rfl rfl ?_
  refine mx_callV yX10_needClerk m_X10_needClerk [.int v2] mm_X10_needClerk ml_RX10_184 im_X10_needClerk se_X10_needClerk (tp_s T 1 rfl) rfl rfl (Nat.le_of_ble_eq_true rfl) (mx_da t_X10_put 5 rfl) rfl (Nat.le_of_ble_eq_true rfl) rfl ?_
  refine mx_mono h ?_
  intro o M2 ho
  obtain ⟨e1, e2, ho⟩ := ho
  rcases ho with ⟨rfl, h⟩ | ⟨E, rfl, h⟩
  rotate_left
  · exact ⟨e1, h⟩
  refine ⟨e1, ?_⟩
  have T := tp_of e1 e2 T
  have ht0 := (congrFun (congrFun e2 1) 10).trans ht0
  clear e1 e2
  show mx_W m_X10_put (d + 1) 10 [.ref 1, .int v1, .int v2, .retAddr 0] [] M2 Q
  refine mx_aload_n 0 (mx_da t_X10_put 6 rfl) rfl rfl rfl rfl ?_
  refine mx_getR 31 fs_RX10_37 rfl (tp_s T 1 rfl) (tp_r T 30 rfl) (mx_da t_X10_put 7 rfl) rfl ?_
  refine mx_iload_n 1 (mx_da t_X10_put 8 rfl) rfl rfl rfl ?_
  refine mx_callV yX5_placeOf m_X5_placeOf [.int v1] mm_X5_placeOf ml_RX10_172 im_X5_placeOf se_X5_placeOf (tp_s T 31 rfl) rfl rfl (Nat.le_of_ble_eq_true rfl) (mx_da t_X10_put 9 rfl) rfl (Nat.le_of_ble_eq_true rfl) rfl ?_
  refine mx_mono h ?_
  intro o M3 ho
  obtain ⟨e1, e2, ho⟩ := ho
  obtain ⟨x4, rfl, h⟩ := ho
  refine ⟨e1, ?_⟩
  have T := tp_of e1 e2 T
  have ht0 := (congrFun (congrFun e2 1) 10).trans ht0
  clear e1 e2
  show mx_W m_X10_put (d + 1) 18 [.ref 1, .int v1, .int v2, .retAddr 0] [.int x4] M3 Q
  refine mx_iconst (v := (-1)) (mx_da t_X10_put 10 rfl) rfl rfl ?_
  refine mx_icmp_eq 27 (mx_da t_X10_put 11 rfl) rfl rfl (fun g9 => ?_) (fun g9 => ?_)
  · have h := h.1 g9
    refine mx_aload_n 0 (mx_da t_X10_put 15 rfl) rfl rfl rfl rfl ?_
    refine mx_getR 31 fs_RX10_37 rfl (tp_s T 1 rfl) (tp_r T 30 rfl) (mx_da t_X10_put 16 rfl) rfl ?_
    refine mx_aload_n 0 (mx_da t_X10_put 17 rfl) rfl rfl rfl rfl ?_
    refine mx_getR 24 fs_RX10_30 rfl (tp_s T 1 rfl) (tp_r T 28 rfl) (mx_da t_X10_put 18 rfl) rfl ?_
    refine mx_iload_n 2 (mx_da t_X10_put 19 rfl) rfl rfl rfl ?_
    refine mx_iload_n 1 (mx_da t_X10_put 20 rfl) rfl rfl rfl ?_
    refine mx_callV yX5_placeFor m_X5_placeFor [.ref 24, .int v2, .int v1] mm_X5_placeFor ml_RX10_252 im_X5_placeFor se_X5_placeFor (tp_s T 31 rfl) rfl rfl (Nat.le_of_ble_eq_true rfl) (mx_da t_X10_put 21 rfl) rfl (Nat.le_of_ble_eq_true rfl) rfl ?_
    refine mx_mono h ?_
    intro o M5 ho
    obtain ⟨e1, e2, ho⟩ := ho
    obtain ⟨x6, rfl, h⟩ := ho
    refine ⟨e1, ?_⟩
    have T := tp_of e1 e2 T
    have ht0 := (congrFun (congrFun e2 1) 10).trans ht0
    clear e1 e2
    show mx_W m_X10_put (d + 1) 40 [.ref 1, .int v1, .int v2, .retAddr 0] [.int x6] M5 Q
    refine mx_istore_n 3 [.ref 1, .int v1, .int v2, .int x6] (mx_da t_X10_put 22 rfl) rfl rfl (by decide) rfl ?_
    refine mx_aload_n 0 (mx_da t_X10_put 23 rfl) rfl rfl rfl rfl ?_
    refine mx_getR 35 fs_RX10_47 rfl (tp_s T 1 rfl) (tp_r T 34 rfl) (mx_da t_X10_put 24 rfl) rfl ?_
    refine mx_aload_n 0 (mx_da t_X10_put 25 rfl) rfl rfl rfl rfl ?_
    refine mx_getR 31 fs_RX10_37 rfl (tp_s T 1 rfl) (tp_r T 30 rfl) (mx_da t_X10_put 26 rfl) rfl ?_
    refine mx_callV yX5_packed m_X5_packed [] mm_X5_packed ml_RX10_255 im_X5_packed se_X5_packed (tp_s T 31 rfl) rfl rfl (Nat.le_of_ble_eq_true rfl) (mx_da t_X10_put 27 rfl) rfl (Nat.le_of_ble_eq_true rfl) rfl ?_
    refine mx_mono h ?_
    intro o M7 ho
    obtain ⟨e1, e2, ho⟩ := ho
    obtain ⟨x8, rfl, h⟩ := ho
    refine ⟨e1, ?_⟩
    have T := tp_of e1 e2 T
    have ht0 := (congrFun (congrFun e2 1) 10).trans ht0
    clear e1 e2
    show mx_W m_X10_put (d + 1) 52 [.ref 1, .int v1, .int v2, .int x6] [.long x8, .ref 35] M7 Q
    refine mx_callV yX0_keep m_X0_keep [.long x8] mm_X0_keep ml_RX10_259 im_X0_keep se_X0_keep (tp_s T 35 rfl) rfl rfl (Nat.le_of_ble_eq_true rfl) (mx_da t_X10_put 28 rfl) rfl (Nat.le_of_ble_eq_true rfl) rfl ?_
    refine mx_mono h ?_
    intro o M9 ho
    obtain ⟨e1, e2, ho⟩ := ho
    obtain ⟨rfl, h⟩ := ho
    refine ⟨e1, ?_⟩
    have T := tp_of e1 e2 T
    have ht0 := (congrFun (congrFun e2 1) 10).trans ht0
    clear e1 e2
    show mx_W m_X10_put (d + 1) 55 [.ref 1, .int v1, .int v2, .int x6] [] M9 Q
    refine mx_aload_n 0 (mx_da t_X10_put 29 rfl) rfl rfl rfl rfl ?_
    refine mx_getR 31 fs_RX10_37 rfl (tp_s T 1 rfl) (tp_r T 30 rfl) (mx_da t_X10_put 30 rfl) rfl ?_
    refine mx_iload_n 3 (mx_da t_X10_put 31 rfl) rfl rfl rfl ?_
    refine mx_iload_n 1 (mx_da t_X10_put 32 rfl) rfl rfl rfl ?_
    refine mx_callV yX5_insert m_X5_insert [.int x6, .int v1] mm_X5_insert ml_RX10_263 im_X5_insert se_X5_insert (tp_s T 31 rfl) rfl rfl (Nat.le_of_ble_eq_true rfl) (mx_da t_X10_put 33 rfl) rfl (Nat.le_of_ble_eq_true rfl) rfl ?_
    refine mx_mono h ?_
    intro o M10 ho
    obtain ⟨e1, e2, ho⟩ := ho
    obtain ⟨rfl, h⟩ := ho
    refine ⟨e1, ?_⟩
    have T := tp_of e1 e2 T
    have ht0 := (congrFun (congrFun e2 1) 10).trans ht0
    clear e1 e2
    show mx_W m_X10_put (d + 1) 64 [.ref 1, .int v1, .int v2, .int x6] [] M10 Q
    refine mx_iload_n 3 (mx_da t_X10_put 34 rfl) rfl rfl rfl ?_
    exact mx_iret rfl (mx_da t_X10_put 35 rfl) h
  · have h := h.2 g9
    refine mx_aload_n 0 (mx_da t_X10_put 12 rfl) rfl rfl rfl rfl ?_
    refine mx_callV yX10_refuseAct m_X10_refuseAct [] mm_X10_refuseAct ml_RX10_249 im_X10_refuseAct se_X10_refuseAct (tp_s T 1 rfl) rfl rfl (Nat.le_of_ble_eq_true rfl) (mx_da t_X10_put 13 rfl) rfl (Nat.le_of_ble_eq_true rfl) rfl ?_
    refine mx_mono h ?_
    intro o M11 ho
    obtain ⟨e1, e2, ho⟩ := ho
    obtain ⟨x12, rfl, h⟩ := ho
    refine ⟨e1, ?_⟩
    have T := tp_of e1 e2 T
    have ht0 := (congrFun (congrFun e2 1) 10).trans ht0
    clear e1 e2
    show mx_W m_X10_put (d + 1) 26 [.ref 1, .int v1, .int v2, .retAddr 0] [.int x12] M11 Q
    exact mx_iret rfl (mx_da t_X10_put 14 rfl) h
set_option maxHeartbeats 1000000 in
theorem x_X10_take_0 {d : Nat} {M : mx_M} {Q : mx_O → mx_M → Prop} (T : mx_Tp M) (t : Nat) (ht : mx_Cat t) (ht0 : mx_R M 1 10 = t) (v1 : Int32)
    (h : (mx_W m_X10_needCard d 0 [.ref 1, .int v1] [] M (fun o M1 => mx_sh M1 = mx_sh M ∧ mx_R M1 = mx_R M ∧ ((o = .inl none ∧ (mx_W m_X5_placeOf d 0 [.ref 31, .int v1, .retAddr 0] [] M1 (fun o M2 => mx_sh M2 = mx_sh M1 ∧ mx_R M2 = mx_R M1 ∧ (∃ x3 : Int32, o = .inl (some (.int x3)) ∧ ((¬ x3 = (-1 : Int32) → (mx_W m_X5_packed d 0 [.ref 31, .retAddr 0, .retAddr 0, .retAddr 0] [] M2 (fun o M4 => mx_sh M4 = mx_sh M2 ∧ mx_R M4 = mx_R M2 ∧ (∃ x5 : Int64, o = .inl (some (.long x5)) ∧ (mx_W m_X0_keep d 0 [.ref 35, .long x5, .retAddr 0] [] M4 (fun o M6 => mx_sh M6 = mx_sh M4 ∧ mx_R M6 = mx_R M4 ∧ (o = .inl none ∧ (mx_W m_X5_remove d 0 [.ref 31, .int x3, .retAddr 0] [] M6 (fun o M7 => mx_sh M7 = mx_sh M6 ∧ mx_R M7 = mx_R M6 ∧ (o = .inl none ∧ Q (.inl (some (.int x3))) M7)))))))))) ∧ (x3 = (-1 : Int32) → (mx_W m_X10_refuseAct d 0 [.ref 1] [] M2 (fun o M8 => mx_sh M8 = mx_sh M2 ∧ mx_R M8 = mx_R M2 ∧ (∃ x9 : Int32, o = .inl (some (.int x9)) ∧ Q (.inl (some (.int x9))) M8))))))))) ∨ ∃ E, o = .inr E ∧ Q (.inr E) M1)))) :
    mx_W m_X10_take (d + 1) 0 [.ref 1, .int v1, .retAddr 0] [] M Q := by
  refine mx_aload_n 0 (mx_da t_X10_take 0 rfl) rfl rfl rfl rfl ?_
  refine mx_iload_n 1 (mx_da t_X10_take 1 rfl) rfl rfl rfl ?_
  refine mx_callV yX10_needCard m_X10_needCard [.int v1] mm_X10_needCard ml_RX10_160 im_X10_needCard se_X10_needCard (tp_s T 1 rfl) rfl rfl (Nat.le_of_ble_eq_true rfl) (mx_da t_X10_take 2 rfl) rfl (Nat.le_of_ble_eq_true rfl) rfl ?_
  refine mx_mono h ?_
  intro o M1 ho
  obtain ⟨e1, e2, ho⟩ := ho
  rcases ho with ⟨rfl, h⟩ | ⟨E, rfl, h⟩
  rotate_left
  · exact ⟨e1, h⟩
  refine ⟨e1, ?_⟩
  have T := tp_of e1 e2 T
  have ht0 := (congrFun (congrFun e2 1) 10).trans ht0
  clear e1 e2
  show mx_W m_X10_take (d + 1) 5 [.ref 1, .int v1, .retAddr 0] [] M1 Q
  refine mx_aload_n 0 (mx_da t_X10_take 3 rfl) rfl rfl rfl rfl ?_
  refine mx_getR 31 fs_RX10_37 rfl (tp_s T 1 rfl) (tp_r T 30 rfl) (mx_da t_X10_take 4 rfl) rfl ?_
  refine mx_iload_n 1 (mx_da t_X10_take 5 rfl) rfl rfl rfl ?_
  refine mx_callV yX5_placeOf m_X5_placeOf [.int v1] mm_X5_placeOf ml_RX10_172 im_X5_placeOf se_X5_placeOf (tp_s T 31 rfl) rfl rfl (Nat.le_of_ble_eq_true rfl) (mx_da t_X10_take 6 rfl) rfl (Nat.le_of_ble_eq_true rfl) rfl ?_
  refine mx_mono h ?_
  intro o M2 ho
  obtain ⟨e1, e2, ho⟩ := ho
  obtain ⟨x3, rfl, h⟩ := ho
  refine ⟨e1, ?_⟩
  have T := tp_of e1 e2 T
  have ht0 := (congrFun (congrFun e2 1) 10).trans ht0
  clear e1 e2
  show mx_W m_X10_take (d + 1) 13 [.ref 1, .int v1, .retAddr 0] [.int x3] M2 Q
  refine mx_istore_n 2 [.ref 1, .int v1, .int x3] (mx_da t_X10_take 7 rfl) rfl rfl (by decide) rfl ?_
  refine mx_iload_n 2 (mx_da t_X10_take 8 rfl) rfl rfl rfl ?_
  refine mx_iconst (v := (-1)) (mx_da t_X10_take 9 rfl) rfl rfl ?_
  refine mx_icmp_ne 24 (mx_da t_X10_take 10 rfl) rfl rfl (fun g9 => ?_) (fun g9 => ?_)
  · have h := h.1 g9
    refine mx_aload_n 0 (mx_da t_X10_take 14 rfl) rfl rfl rfl rfl ?_
    refine mx_getR 35 fs_RX10_47 rfl (tp_s T 1 rfl) (tp_r T 34 rfl) (mx_da t_X10_take 15 rfl) rfl ?_
    refine mx_aload_n 0 (mx_da t_X10_take 16 rfl) rfl rfl rfl rfl ?_
    refine mx_getR 31 fs_RX10_37 rfl (tp_s T 1 rfl) (tp_r T 30 rfl) (mx_da t_X10_take 17 rfl) rfl ?_
    refine mx_callV yX5_packed m_X5_packed [] mm_X5_packed ml_RX10_255 im_X5_packed se_X5_packed (tp_s T 31 rfl) rfl rfl (Nat.le_of_ble_eq_true rfl) (mx_da t_X10_take 18 rfl) rfl (Nat.le_of_ble_eq_true rfl) rfl ?_
    refine mx_mono h ?_
    intro o M4 ho
    obtain ⟨e1, e2, ho⟩ := ho
    obtain ⟨x5, rfl, h⟩ := ho
    refine ⟨e1, ?_⟩
    have T := tp_of e1 e2 T
    have ht0 := (congrFun (congrFun e2 1) 10).trans ht0
    clear e1 e2
    show mx_W m_X10_take (d + 1) 35 [.ref 1, .int v1, .int x3] [.long x5, .ref 35] M4 Q
    refine mx_callV yX0_keep m_X0_keep [.long x5] mm_X0_keep ml_RX10_259 im_X0_keep se_X0_keep (tp_s T 35 rfl) rfl rfl (Nat.le_of_ble_eq_true rfl) (mx_da t_X10_take 19 rfl) rfl (Nat.le_of_ble_eq_true rfl) rfl ?_
    refine mx_mono h ?_
    intro o M6 ho
    obtain ⟨e1, e2, ho⟩ := ho
    obtain ⟨rfl, h⟩ := ho
    refine ⟨e1, ?_⟩
    have T := tp_of e1 e2 T
    have ht0 := (congrFun (congrFun e2 1) 10).trans ht0
    clear e1 e2
    show mx_W m_X10_take (d + 1) 38 [.ref 1, .int v1, .int x3] [] M6 Q
    refine mx_aload_n 0 (mx_da t_X10_take 20 rfl) rfl rfl rfl rfl ?_
    refine mx_getR 31 fs_RX10_37 rfl (tp_s T 1 rfl) (tp_r T 30 rfl) (mx_da t_X10_take 21 rfl) rfl ?_
    refine mx_iload_n 2 (mx_da t_X10_take 22 rfl) rfl rfl rfl ?_
    refine mx_callV yX5_remove m_X5_remove [.int x3] mm_X5_remove ml_RX10_267 im_X5_remove se_X5_remove (tp_s T 31 rfl) rfl rfl (Nat.le_of_ble_eq_true rfl) (mx_da t_X10_take 23 rfl) rfl (Nat.le_of_ble_eq_true rfl) rfl ?_
    refine mx_mono h ?_
    intro o M7 ho
    obtain ⟨e1, e2, ho⟩ := ho
    obtain ⟨rfl, h⟩ := ho
    refine ⟨e1, ?_⟩
    have T := tp_of e1 e2 T
    have ht0 := (congrFun (congrFun e2 1) 10).trans ht0
    clear e1 e2
    show mx_W m_X10_take (d + 1) 46 [.ref 1, .int v1, .int x3] [] M7 Q
    refine mx_iload_n 2 (mx_da t_X10_take 24 rfl) rfl rfl rfl ?_
    exact mx_iret rfl (mx_da t_X10_take 25 rfl) h
  · have h := h.2 g9
    refine mx_aload_n 0 (mx_da t_X10_take 11 rfl) rfl rfl rfl rfl ?_
    refine mx_callV yX10_refuseAct m_X10_refuseAct [] mm_X10_refuseAct ml_RX10_249 im_X10_refuseAct se_X10_refuseAct (tp_s T 1 rfl) rfl rfl (Nat.le_of_ble_eq_true rfl) (mx_da t_X10_take 12 rfl) rfl (Nat.le_of_ble_eq_true rfl) rfl ?_
    refine mx_mono h ?_
    intro o M8 ho
    obtain ⟨e1, e2, ho⟩ := ho
    obtain ⟨x9, rfl, h⟩ := ho
    refine ⟨e1, ?_⟩
    have T := tp_of e1 e2 T
    have ht0 := (congrFun (congrFun e2 1) 10).trans ht0
    clear e1 e2
    show mx_W m_X10_take (d + 1) 23 [.ref 1, .int v1, .int x3] [.int x9] M8 Q
    exact mx_iret rfl (mx_da t_X10_take 13 rfl) h
set_option maxHeartbeats 1000000 in
theorem x_X10_move_0 {d : Nat} {M : mx_M} {Q : mx_O → mx_M → Prop} (T : mx_Tp M) (t : Nat) (ht : mx_Cat t) (ht0 : mx_R M 1 10 = t) (v1 : Int32) (v2 : Int32)
    (h : (mx_W m_X10_needCard d 0 [.ref 1, .int v1] [] M (fun o M1 => mx_sh M1 = mx_sh M ∧ mx_R M1 = mx_R M ∧ ((o = .inl none ∧ (mx_W m_X5_placeOf d 0 [.ref 31, .int v1, .retAddr 0] [] M1 (fun o M2 => mx_sh M2 = mx_sh M1 ∧ mx_R M2 = mx_R M1 ∧ (∃ x3 : Int32, o = .inl (some (.int x3)) ∧ ((x3 = (-1 : Int32) → (mx_W m_X10_refuseAct d 0 [.ref 1] [] M2 (fun o M4 => mx_sh M4 = mx_sh M2 ∧ mx_R M4 = mx_R M2 ∧ (∃ x5 : Int32, o = .inl (some (.int x5)) ∧ Q (.inl (some (.int x5))) M4)))) ∧ (¬ x3 = (-1 : Int32) → ((v2 < 0 → (mx_W m_X10_refuseAct d 0 [.ref 1] [] M2 (fun o M6 => mx_sh M6 = mx_sh M2 ∧ mx_R M6 = mx_R M2 ∧ (∃ x7 : Int32, o = .inl (some (.int x7)) ∧ Q (.inl (some (.int x7))) M6)))) ∧ (¬ v2 < 0 → ((v2 < (mx_I M2 31 1) → (mx_W m_X5_packed d 0 [.ref 31, .retAddr 0, .retAddr 0, .retAddr 0] [] M2 (fun o M8 => mx_sh M8 = mx_sh M2 ∧ mx_R M8 = mx_R M2 ∧ (∃ x9 : Int64, o = .inl (some (.long x9)) ∧ (mx_W m_X0_keep d 0 [.ref 35, .long x9, .retAddr 0] [] M8 (fun o M10 => mx_sh M10 = mx_sh M8 ∧ mx_R M10 = mx_R M8 ∧ (o = .inl none ∧ (mx_W m_X5_remove d 0 [.ref 31, .int x3, .retAddr 0] [] M10 (fun o M11 => mx_sh M11 = mx_sh M10 ∧ mx_R M11 = mx_R M10 ∧ (o = .inl none ∧ (mx_W m_X5_insert d 0 [.ref 31, .int v2, .int v1, .retAddr 0] [] M11 (fun o M12 => mx_sh M12 = mx_sh M11 ∧ mx_R M12 = mx_R M11 ∧ (o = .inl none ∧ Q (.inl (some (.int x3))) M12))))))))))))) ∧ (¬ v2 < (mx_I M2 31 1) → (mx_W m_X10_refuseAct d 0 [.ref 1] [] M2 (fun o M13 => mx_sh M13 = mx_sh M2 ∧ mx_R M13 = mx_R M2 ∧ (∃ x14 : Int32, o = .inl (some (.int x14)) ∧ Q (.inl (some (.int x14))) M13))))))))))))) ∨ ∃ E, o = .inr E ∧ Q (.inr E) M1)))) :
    mx_W m_X10_move (d + 1) 0 [.ref 1, .int v1, .int v2, .retAddr 0] [] M Q := by
  refine mx_aload_n 0 (mx_da t_X10_move 0 rfl) rfl rfl rfl rfl ?_
  refine mx_iload_n 1 (mx_da t_X10_move 1 rfl) rfl rfl rfl ?_
  refine mx_callV yX10_needCard m_X10_needCard [.int v1] mm_X10_needCard ml_RX10_160 im_X10_needCard se_X10_needCard (tp_s T 1 rfl) rfl rfl (Nat.le_of_ble_eq_true rfl) (mx_da t_X10_move 2 rfl) rfl (Nat.le_of_ble_eq_true rfl) rfl ?_
  refine mx_mono h ?_
  intro o M1 ho
  obtain ⟨e1, e2, ho⟩ := ho
  rcases ho with ⟨rfl, h⟩ | ⟨E, rfl, h⟩
  rotate_left
  · exact ⟨e1, h⟩
  refine ⟨e1, ?_⟩
  have T := tp_of e1 e2 T
  have ht0 := (congrFun (congrFun e2 1) 10).trans ht0
  clear e1 e2
  show mx_W m_X10_move (d + 1) 5 [.ref 1, .int v1, .int v2, .retAddr 0] [] M1 Q
  refine mx_aload_n 0 (mx_da t_X10_move 3 rfl) rfl rfl rfl rfl ?_
  refine mx_getR 31 fs_RX10_37 rfl (tp_s T 1 rfl) (tp_r T 30 rfl) (mx_da t_X10_move 4 rfl) rfl ?_
  refine mx_iload_n 1 (mx_da t_X10_move 5 rfl) rfl rfl rfl ?_
  refine mx_callV yX5_placeOf m_X5_placeOf [.int v1] mm_X5_placeOf ml_RX10_172 im_X5_placeOf se_X5_placeOf (tp_s T 31 rfl) rfl rfl (Nat.le_of_ble_eq_true rfl) (mx_da t_X10_move 6 rfl) rfl (Nat.le_of_ble_eq_true rfl) rfl ?_
  refine mx_mono h ?_
  intro o M2 ho
  obtain ⟨e1, e2, ho⟩ := ho
  obtain ⟨x3, rfl, h⟩ := ho
  refine ⟨e1, ?_⟩
  have T := tp_of e1 e2 T
  have ht0 := (congrFun (congrFun e2 1) 10).trans ht0
  clear e1 e2
  show mx_W m_X10_move (d + 1) 13 [.ref 1, .int v1, .int v2, .retAddr 0] [.int x3] M2 Q
  refine mx_istore_n 3 [.ref 1, .int v1, .int v2, .int x3] (mx_da t_X10_move 7 rfl) rfl rfl (by decide) rfl ?_
  refine mx_iload_n 3 (mx_da t_X10_move 8 rfl) rfl rfl rfl ?_
  refine mx_iconst (v := (-1)) (mx_da t_X10_move 9 rfl) rfl rfl ?_
  refine mx_icmp_eq 34 (mx_da t_X10_move 10 rfl) rfl rfl (fun g9 => ?_) (fun g9 => ?_)
  · have h := h.1 g9
    refine mx_aload_n 0 (mx_da t_X10_move 18 rfl) rfl rfl rfl rfl ?_
    refine mx_callV yX10_refuseAct m_X10_refuseAct [] mm_X10_refuseAct ml_RX10_249 im_X10_refuseAct se_X10_refuseAct (tp_s T 1 rfl) rfl rfl (Nat.le_of_ble_eq_true rfl) (mx_da t_X10_move 19 rfl) rfl (Nat.le_of_ble_eq_true rfl) rfl ?_
    refine mx_mono h ?_
    intro o M4 ho
    obtain ⟨e1, e2, ho⟩ := ho
    obtain ⟨x5, rfl, h⟩ := ho
    refine ⟨e1, ?_⟩
    have T := tp_of e1 e2 T
    have ht0 := (congrFun (congrFun e2 1) 10).trans ht0
    clear e1 e2
    show mx_W m_X10_move (d + 1) 38 [.ref 1, .int v1, .int v2, .int x3] [.int x5] M4 Q
    exact mx_iret rfl (mx_da t_X10_move 20 rfl) h
  · have h := h.2 g9
    refine mx_iload_n 2 (mx_da t_X10_move 11 rfl) rfl rfl rfl ?_
    refine mx_if_lt 34 (mx_da t_X10_move 12 rfl) rfl rfl (fun g9 => ?_) (fun g9 => ?_)
    · have h := h.1 g9
      refine mx_aload_n 0 (mx_da t_X10_move 18 rfl) rfl rfl rfl rfl ?_
      refine mx_callV yX10_refuseAct m_X10_refuseAct [] mm_X10_refuseAct ml_RX10_249 im_X10_refuseAct se_X10_refuseAct (tp_s T 1 rfl) rfl rfl (Nat.le_of_ble_eq_true rfl) (mx_da t_X10_move 19 rfl) rfl (Nat.le_of_ble_eq_true rfl) rfl ?_
      refine mx_mono h ?_
      intro o M6 ho
      obtain ⟨e1, e2, ho⟩ := ho
      obtain ⟨x7, rfl, h⟩ := ho
      refine ⟨e1, ?_⟩
      have T := tp_of e1 e2 T
      have ht0 := (congrFun (congrFun e2 1) 10).trans ht0
      clear e1 e2
      show mx_W m_X10_move (d + 1) 38 [.ref 1, .int v1, .int v2, .int x3] [.int x7] M6 Q
      exact mx_iret rfl (mx_da t_X10_move 20 rfl) h
    · have h := h.2 g9
      refine mx_iload_n 2 (mx_da t_X10_move 13 rfl) rfl rfl rfl ?_
      refine mx_aload_n 0 (mx_da t_X10_move 14 rfl) rfl rfl rfl rfl ?_
      refine mx_getR 31 fs_RX10_37 rfl (tp_s T 1 rfl) (tp_r T 30 rfl) (mx_da t_X10_move 15 rfl) rfl ?_
      refine mx_getI fs_RX10_144 rfl (tp_s T 31 rfl) (mx_da t_X10_move 16 rfl) rfl ?_
      refine mx_icmp_lt 39 (mx_da t_X10_move 17 rfl) rfl rfl (fun g9 => ?_) (fun g9 => ?_)
      · have h := h.1 g9
        refine mx_aload_n 0 (mx_da t_X10_move 21 rfl) rfl rfl rfl rfl ?_
        refine mx_getR 35 fs_RX10_47 rfl (tp_s T 1 rfl) (tp_r T 34 rfl) (mx_da t_X10_move 22 rfl) rfl ?_
        refine mx_aload_n 0 (mx_da t_X10_move 23 rfl) rfl rfl rfl rfl ?_
        refine mx_getR 31 fs_RX10_37 rfl (tp_s T 1 rfl) (tp_r T 30 rfl) (mx_da t_X10_move 24 rfl) rfl ?_
        refine mx_callV yX5_packed m_X5_packed [] mm_X5_packed ml_RX10_255 im_X5_packed se_X5_packed (tp_s T 31 rfl) rfl rfl (Nat.le_of_ble_eq_true rfl) (mx_da t_X10_move 25 rfl) rfl (Nat.le_of_ble_eq_true rfl) rfl ?_
        refine mx_mono h ?_
        intro o M8 ho
        obtain ⟨e1, e2, ho⟩ := ho
        obtain ⟨x9, rfl, h⟩ := ho
        refine ⟨e1, ?_⟩
        have T := tp_of e1 e2 T
        have ht0 := (congrFun (congrFun e2 1) 10).trans ht0
        clear e1 e2
        show mx_W m_X10_move (d + 1) 50 [.ref 1, .int v1, .int v2, .int x3] [.long x9, .ref 35] M8 Q
        refine mx_callV yX0_keep m_X0_keep [.long x9] mm_X0_keep ml_RX10_259 im_X0_keep se_X0_keep (tp_s T 35 rfl) rfl rfl (Nat.le_of_ble_eq_true rfl) (mx_da t_X10_move 26 rfl) rfl (Nat.le_of_ble_eq_true rfl) rfl ?_
        refine mx_mono h ?_
        intro o M10 ho
        obtain ⟨e1, e2, ho⟩ := ho
        obtain ⟨rfl, h⟩ := ho
        refine ⟨e1, ?_⟩
        have T := tp_of e1 e2 T
        have ht0 := (congrFun (congrFun e2 1) 10).trans ht0
        clear e1 e2
        show mx_W m_X10_move (d + 1) 53 [.ref 1, .int v1, .int v2, .int x3] [] M10 Q
        refine mx_aload_n 0 (mx_da t_X10_move 27 rfl) rfl rfl rfl rfl ?_
        refine mx_getR 31 fs_RX10_37 rfl (tp_s T 1 rfl) (tp_r T 30 rfl) (mx_da t_X10_move 28 rfl) rfl ?_
        refine mx_iload_n 3 (mx_da t_X10_move 29 rfl) rfl rfl rfl ?_
        refine mx_callV yX5_remove m_X5_remove [.int x3] mm_X5_remove ml_RX10_267 im_X5_remove se_X5_remove (tp_s T 31 rfl) rfl rfl (Nat.le_of_ble_eq_true rfl) (mx_da t_X10_move 30 rfl) rfl (Nat.le_of_ble_eq_true rfl) rfl ?_
        refine mx_mono h ?_
        intro o M11 ho
        obtain ⟨e1, e2, ho⟩ := ho
        obtain ⟨rfl, h⟩ := ho
        refine ⟨e1, ?_⟩
        have T := tp_of e1 e2 T
        have ht0 := (congrFun (congrFun e2 1) 10).trans ht0
        clear e1 e2
        show mx_W m_X10_move (d + 1) 61 [.ref 1, .int v1, .int v2, .int x3] [] M11 Q
        refine mx_aload_n 0 (mx_da t_X10_move 31 rfl) rfl rfl rfl rfl ?_
        refine mx_getR 31 fs_RX10_37 rfl (tp_s T 1 rfl) (tp_r T 30 rfl) (mx_da t_X10_move 32 rfl) rfl ?_
        refine mx_iload_n 2 (mx_da t_X10_move 33 rfl) rfl rfl rfl ?_
        refine mx_iload_n 1 (mx_da t_X10_move 34 rfl) rfl rfl rfl ?_
        refine mx_callV yX5_insert m_X5_insert [.int v2, .int v1] mm_X5_insert ml_RX10_263 im_X5_insert se_X5_insert (tp_s T 31 rfl) rfl rfl (Nat.le_of_ble_eq_true rfl) (mx_da t_X10_move 35 rfl) rfl (Nat.le_of_ble_eq_true rfl) rfl ?_
        refine mx_mono h ?_
        intro o M12 ho
        obtain ⟨e1, e2, ho⟩ := ho
        obtain ⟨rfl, h⟩ := ho
        refine ⟨e1, ?_⟩
        have T := tp_of e1 e2 T
        have ht0 := (congrFun (congrFun e2 1) 10).trans ht0
        clear e1 e2
        show mx_W m_X10_move (d + 1) 70 [.ref 1, .int v1, .int v2, .int x3] [] M12 Q
        refine mx_iload_n 3 (mx_da t_X10_move 36 rfl) rfl rfl rfl ?_
        exact mx_iret rfl (mx_da t_X10_move 37 rfl) h
      · have h := h.2 g9
        refine mx_aload_n 0 (mx_da t_X10_move 18 rfl) rfl rfl rfl rfl ?_
        refine mx_callV yX10_refuseAct m_X10_refuseAct [] mm_X10_refuseAct ml_RX10_249 im_X10_refuseAct se_X10_refuseAct (tp_s T 1 rfl) rfl rfl (Nat.le_of_ble_eq_true rfl) (mx_da t_X10_move 19 rfl) rfl (Nat.le_of_ble_eq_true rfl) rfl ?_
        refine mx_mono h ?_
        intro o M13 ho
        obtain ⟨e1, e2, ho⟩ := ho
        obtain ⟨x14, rfl, h⟩ := ho
        refine ⟨e1, ?_⟩
        have T := tp_of e1 e2 T
        have ht0 := (congrFun (congrFun e2 1) 10).trans ht0
        clear e1 e2
        show mx_W m_X10_move (d + 1) 38 [.ref 1, .int v1, .int v2, .int x3] [.int x14] M13 Q
        exact mx_iret rfl (mx_da t_X10_move 20 rfl) h
set_option maxHeartbeats 1000000 in
theorem x_X10_file_0 {d : Nat} {M : mx_M} {Q : mx_O → mx_M → Prop} (T : mx_Tp M) (t : Nat) (ht : mx_Cat t) (ht0 : mx_R M 1 10 = t) (v1 : Int32)
    (h : (mx_W m_X10_needClerk d 0 [.ref 1, .int v1] [] M (fun o M1 => mx_sh M1 = mx_sh M ∧ mx_R M1 = mx_R M ∧ ((o = .inl none ∧ (mx_W m_X5_copy d 0 [.ref 33, .ref 31] [] M1 (fun o M2 => mx_sh M2 = mx_sh M1 ∧ mx_R M2 = mx_R M1 ∧ (o = .inl none ∧ (mx_W m_X5_packed d 0 [.ref 31, .retAddr 0, .retAddr 0, .retAddr 0] [] M2 (fun o M3 => mx_sh M3 = mx_sh M2 ∧ mx_R M3 = mx_R M2 ∧ (∃ x4 : Int64, o = .inl (some (.long x4)) ∧ (mx_W m_X0_keep d 0 [.ref 35, .long x4, .retAddr 0] [] M3 (fun o M5 => mx_sh M5 = mx_sh M3 ∧ mx_R M5 = mx_R M3 ∧ (o = .inl none ∧ (mx_W m_X5_sort d 0 [.ref 31, .ref 24, .int v1, .retAddr 0, .retAddr 0, .retAddr 0] [] M5 (fun o M6 => mx_sh M6 = mx_sh M5 ∧ mx_R M6 = mx_R M5 ∧ (o = .inl none ∧ mx_W m_X10_file (d + 1) 46 [.ref 1, .retAddr 0, .int 0, .int 0] [] M6 Q))))))))))))) ∨ ∃ E, o = .inr E ∧ Q (.inr E) M1)))) :
    mx_W m_X10_file (d + 1) 0 [.ref 1, .int v1, .retAddr 0, .retAddr 0] [] M Q := by
  refine mx_aload_n 0 (mx_da t_X10_file 0 rfl) rfl rfl rfl rfl ?_
  refine mx_iload_n 1 (mx_da t_X10_file 1 rfl) rfl rfl rfl ?_
  refine mx_callV yX10_needClerk m_X10_needClerk [.int v1] mm_X10_needClerk ml_RX10_184 im_X10_needClerk se_X10_needClerk (tp_s T 1 rfl) rfl rfl (Nat.le_of_ble_eq_true rfl) (mx_da t_X10_file 2 rfl) rfl (Nat.le_of_ble_eq_true rfl) rfl ?_
  refine mx_mono h ?_
  intro o M1 ho
  obtain ⟨e1, e2, ho⟩ := ho
  rcases ho with ⟨rfl, h⟩ | ⟨E, rfl, h⟩
  rotate_left
  · exact ⟨e1, h⟩
  refine ⟨e1, ?_⟩
  have T := tp_of e1 e2 T
  have ht0 := (congrFun (congrFun e2 1) 10).trans ht0
  clear e1 e2
  show mx_W m_X10_file (d + 1) 5 [.ref 1, .int v1, .retAddr 0, .retAddr 0] [] M1 Q
  refine mx_aload_n 0 (mx_da t_X10_file 3 rfl) rfl rfl rfl rfl ?_
  refine mx_getR 33 fs_RX10_41 rfl (tp_s T 1 rfl) (tp_r T 32 rfl) (mx_da t_X10_file 4 rfl) rfl ?_
  refine mx_aload_n 0 (mx_da t_X10_file 5 rfl) rfl rfl rfl rfl ?_
  refine mx_getR 31 fs_RX10_37 rfl (tp_s T 1 rfl) (tp_r T 30 rfl) (mx_da t_X10_file 6 rfl) rfl ?_
  refine mx_callV yX5_copy m_X5_copy [.ref 31] mm_X5_copy ml_RX10_270 im_X5_copy se_X5_copy (tp_s T 33 rfl) rfl rfl (Nat.le_of_ble_eq_true rfl) (mx_da t_X10_file 7 rfl) rfl (Nat.le_of_ble_eq_true rfl) rfl ?_
  refine mx_mono h ?_
  intro o M2 ho
  obtain ⟨e1, e2, ho⟩ := ho
  obtain ⟨rfl, h⟩ := ho
  refine ⟨e1, ?_⟩
  have T := tp_of e1 e2 T
  have ht0 := (congrFun (congrFun e2 1) 10).trans ht0
  clear e1 e2
  show mx_W m_X10_file (d + 1) 16 [.ref 1, .int v1, .retAddr 0, .retAddr 0] [] M2 Q
  refine mx_aload_n 0 (mx_da t_X10_file 8 rfl) rfl rfl rfl rfl ?_
  refine mx_getR 35 fs_RX10_47 rfl (tp_s T 1 rfl) (tp_r T 34 rfl) (mx_da t_X10_file 9 rfl) rfl ?_
  refine mx_aload_n 0 (mx_da t_X10_file 10 rfl) rfl rfl rfl rfl ?_
  refine mx_getR 31 fs_RX10_37 rfl (tp_s T 1 rfl) (tp_r T 30 rfl) (mx_da t_X10_file 11 rfl) rfl ?_
  refine mx_callV yX5_packed m_X5_packed [] mm_X5_packed ml_RX10_255 im_X5_packed se_X5_packed (tp_s T 31 rfl) rfl rfl (Nat.le_of_ble_eq_true rfl) (mx_da t_X10_file 12 rfl) rfl (Nat.le_of_ble_eq_true rfl) rfl ?_
  refine mx_mono h ?_
  intro o M3 ho
  obtain ⟨e1, e2, ho⟩ := ho
  obtain ⟨x4, rfl, h⟩ := ho
  refine ⟨e1, ?_⟩
  have T := tp_of e1 e2 T
  have ht0 := (congrFun (congrFun e2 1) 10).trans ht0
  clear e1 e2
  show mx_W m_X10_file (d + 1) 27 [.ref 1, .int v1, .retAddr 0, .retAddr 0] [.long x4, .ref 35] M3 Q
  refine mx_callV yX0_keep m_X0_keep [.long x4] mm_X0_keep ml_RX10_259 im_X0_keep se_X0_keep (tp_s T 35 rfl) rfl rfl (Nat.le_of_ble_eq_true rfl) (mx_da t_X10_file 13 rfl) rfl (Nat.le_of_ble_eq_true rfl) rfl ?_
  refine mx_mono h ?_
  intro o M5 ho
  obtain ⟨e1, e2, ho⟩ := ho
  obtain ⟨rfl, h⟩ := ho
  refine ⟨e1, ?_⟩
  have T := tp_of e1 e2 T
  have ht0 := (congrFun (congrFun e2 1) 10).trans ht0
  clear e1 e2
  show mx_W m_X10_file (d + 1) 30 [.ref 1, .int v1, .retAddr 0, .retAddr 0] [] M5 Q
  refine mx_aload_n 0 (mx_da t_X10_file 14 rfl) rfl rfl rfl rfl ?_
  refine mx_getR 31 fs_RX10_37 rfl (tp_s T 1 rfl) (tp_r T 30 rfl) (mx_da t_X10_file 15 rfl) rfl ?_
  refine mx_aload_n 0 (mx_da t_X10_file 16 rfl) rfl rfl rfl rfl ?_
  refine mx_getR 24 fs_RX10_30 rfl (tp_s T 1 rfl) (tp_r T 28 rfl) (mx_da t_X10_file 17 rfl) rfl ?_
  refine mx_iload_n 1 (mx_da t_X10_file 18 rfl) rfl rfl rfl ?_
  refine mx_callV yX5_sort m_X5_sort [.ref 24, .int v1] mm_X5_sort ml_RX10_274 im_X5_sort se_X5_sort (tp_s T 31 rfl) rfl rfl (Nat.le_of_ble_eq_true rfl) (mx_da t_X10_file 19 rfl) rfl (Nat.le_of_ble_eq_true rfl) rfl ?_
  refine mx_mono h ?_
  intro o M6 ho
  obtain ⟨e1, e2, ho⟩ := ho
  obtain ⟨rfl, h⟩ := ho
  refine ⟨e1, ?_⟩
  have T := tp_of e1 e2 T
  have ht0 := (congrFun (congrFun e2 1) 10).trans ht0
  clear e1 e2
  show mx_W m_X10_file (d + 1) 42 [.ref 1, .int v1, .retAddr 0, .retAddr 0] [] M6 Q
  refine mx_iconst (v := 0) (mx_da t_X10_file 20 rfl) rfl rfl ?_
  refine mx_istore_n 2 [.ref 1, .int v1, .int 0, .retAddr 0] (mx_da t_X10_file 21 rfl) rfl rfl (by decide) rfl ?_
  refine mx_iconst (v := 0) (mx_da t_X10_file 22 rfl) rfl rfl ?_
  refine mx_istore_n 3 [.ref 1, .int v1, .int 0, .int 0] (mx_da t_X10_file 23 rfl) rfl rfl (by decide) rfl ?_
  exact mx_wkn [.ref 1, .retAddr 0, .int 0, .int 0] ⟨Or.inr rfl, Or.inl rfl, Or.inr rfl, Or.inr rfl, trivial⟩ h
set_option maxHeartbeats 1000000 in
theorem x_X10_file_46 {d : Nat} {M : mx_M} {Q : mx_O → mx_M → Prop} (T : mx_Tp M) (t : Nat) (ht : mx_Cat t) (ht0 : mx_R M 1 10 = t) (v2 : Int32) (v3 : Int32)
    (h : (((mx_I M 31 1) ≤ v3 → Q (.inl (some (.int v2))) M) ∧ (¬ (mx_I M 31 1) ≤ v3 → (vp_in v3 10 ∧ (vp_in v3 10 ∧ (((mx_I M 32 v3.toNatClampNeg) = (mx_I M 34 v3.toNatClampNeg) → mx_W m_X10_file (d + 1) 46 [.ref 1, .retAddr 0, .int v2, .int (v3 + 1)] [] M Q) ∧ (¬ (mx_I M 32 v3.toNatClampNeg) = (mx_I M 34 v3.toNatClampNeg) → mx_W m_X10_file (d + 1) 46 [.ref 1, .retAddr 0, .int (v2 + 1), .int (v3 + 1)] [] M Q))))))) :
    mx_W m_X10_file (d + 1) 46 [.ref 1, .retAddr 0, .int v2, .int v3] [] M Q := by
  refine mx_iload_n 3 (mx_da t_X10_file 24 rfl) rfl rfl rfl ?_
  refine mx_aload_n 0 (mx_da t_X10_file 25 rfl) rfl rfl rfl rfl ?_
  refine mx_getR 31 fs_RX10_37 rfl (tp_s T 1 rfl) (tp_r T 30 rfl) (mx_da t_X10_file 26 rfl) rfl ?_
  refine mx_getI fs_RX10_144 rfl (tp_s T 31 rfl) (mx_da t_X10_file 27 rfl) rfl ?_
  refine mx_icmp_ge 87 (mx_da t_X10_file 28 rfl) rfl rfl (fun g9 => ?_) (fun g9 => ?_)
  · have h := h.1 g9
    refine mx_iload_n 2 (mx_da t_X10_file 43 rfl) rfl rfl rfl ?_
    exact mx_iret rfl (mx_da t_X10_file 44 rfl) h
  · have h := h.2 g9
    refine mx_aload_n 0 (mx_da t_X10_file 29 rfl) rfl rfl rfl rfl ?_
    refine mx_getR 31 fs_RX10_37 rfl (tp_s T 1 rfl) (tp_r T 30 rfl) (mx_da t_X10_file 30 rfl) rfl ?_
    refine mx_getR 32 fs_RX10_247 rfl (tp_s T 31 rfl) (tp_r T 29 rfl) (mx_da t_X10_file 31 rfl) rfl ?_
    refine mx_iload_n 3 (mx_da t_X10_file 32 rfl) rfl rfl rfl ?_
    refine mx_iald (tp_s T 32 rfl) h.1 (mx_da t_X10_file 33 rfl) rfl ?_
    have h := h.2
    refine mx_aload_n 0 (mx_da t_X10_file 34 rfl) rfl rfl rfl rfl ?_
    refine mx_getR 33 fs_RX10_41 rfl (tp_s T 1 rfl) (tp_r T 32 rfl) (mx_da t_X10_file 35 rfl) rfl ?_
    refine mx_getR 34 fs_RX10_247 rfl (tp_s T 33 rfl) (tp_r T 31 rfl) (mx_da t_X10_file 36 rfl) rfl ?_
    refine mx_iload_n 3 (mx_da t_X10_file 37 rfl) rfl rfl rfl ?_
    refine mx_iald (tp_s T 34 rfl) h.1 (mx_da t_X10_file 38 rfl) rfl ?_
    have h := h.2
    refine mx_icmp_eq 81 (mx_da t_X10_file 39 rfl) rfl rfl (fun g9 => ?_) (fun g9 => ?_)
    · have h := h.1 g9
      refine mx_iinc 3 (v := v3 + 1) [.ref 1, .retAddr 0, .int v2, .int (v3 + 1)] (mx_da t_X10_file 41 rfl) rfl (by decide) rfl rfl rfl ?_
      refine mx_goto (n := 46) (mx_da t_X10_file 42 rfl) rfl ?_
      exact h
    · have h := h.2 g9
      refine mx_iinc 2 (v := v2 + 1) [.ref 1, .retAddr 0, .int (v2 + 1), .int v3] (mx_da t_X10_file 40 rfl) rfl (by decide) rfl rfl rfl ?_
      refine mx_iinc 3 (v := v3 + 1) [.ref 1, .retAddr 0, .int (v2 + 1), .int (v3 + 1)] (mx_da t_X10_file 41 rfl) rfl (by decide) rfl rfl rfl ?_
      refine mx_goto (n := 46) (mx_da t_X10_file 42 rfl) rfl ?_
      exact h
set_option maxHeartbeats 1000000 in
theorem x_X10_refuseAct_0 {d : Nat} {M : mx_M} {Q : mx_O → mx_M → Prop} (T : mx_Tp M) (t : Nat) (ht : mx_Cat t) (ht0 : mx_R M 1 10 = t)
    (h : (∀ M1, M1 = mx_setI M 1 16 ((mx_I M 1 16) + 1) → Q (.inl (some (.int (-1)))) M1)) :
    mx_W m_X10_refuseAct d 0 [.ref 1] [] M Q := by
  refine mx_aload_n 0 (mx_da t_X10_refuseAct 0 rfl) rfl rfl rfl rfl ?_
  refine mx_dup (mx_da t_X10_refuseAct 1 rfl) rfl rfl ?_
  refine mx_getI fs_RX10_93 rfl (tp_s T 1 rfl) (mx_da t_X10_refuseAct 2 rfl) rfl ?_
  refine mx_iconst (v := 1) (mx_da t_X10_refuseAct 3 rfl) rfl rfl ?_
  refine mx_iadd (mx_da t_X10_refuseAct 4 rfl) rfl ?_
  refine mx_putI fs_RX10_93 rfl (tp_s T 1 rfl) rfl rfl rfl (mx_da t_X10_refuseAct 5 rfl) rfl ?_
  refine mx_gen (mx_setI M 1 16 ((mx_I M 1 16) + 1)) (fun M1 e9 => ?_)
  have h := h _ e9
  have T : mx_Tp M1 := tp_e e9 T
  have ht0 : mx_R M1 1 10 = t := rr_e e9 ht0
  refine mx_iconst (v := (-1)) (mx_da t_X10_refuseAct 6 rfl) rfl rfl ?_
  exact mx_iret rfl (mx_da t_X10_refuseAct 7 rfl) h
set_option maxHeartbeats 1000000 in
theorem x_X10_undo_0 {d : Nat} {M : mx_M} {Q : mx_O → mx_M → Prop} (T : mx_Tp M) (t : Nat) (ht : mx_Cat t) (ht0 : mx_R M 1 10 = t)
    (h : ((¬ (mx_I M 35 1) = 0 → (mx_W m_X0_dropLatest d 0 [.ref 35] [] M (fun o M1 => mx_sh M1 = mx_sh M ∧ mx_R M1 = mx_R M ∧ (∃ x2 : Int64, o = .inl (some (.long x2)) ∧ (mx_W m_X5_unpack d 0 [.ref 31, .long x2, .retAddr 0, .retAddr 0] [] M1 (fun o M3 => mx_sh M3 = mx_sh M1 ∧ mx_R M3 = mx_R M1 ∧ (o = .inl none ∧ Q (.inl (some (.int (mx_I M3 35 1)))) M3))))))) ∧ ((mx_I M 35 1) = 0 → Q (.inl (some (.int (-1)))) M))) :
    mx_W m_X10_undo (d + 1) 0 [.ref 1] [] M Q := by
  refine mx_aload_n 0 (mx_da t_X10_undo 0 rfl) rfl rfl rfl rfl ?_
  refine mx_getR 35 fs_RX10_47 rfl (tp_s T 1 rfl) (tp_r T 34 rfl) (mx_da t_X10_undo 1 rfl) rfl ?_
  refine mx_getI fs_RX10_147 rfl (tp_s T 35 rfl) (mx_da t_X10_undo 2 rfl) rfl ?_
  refine mx_if_ne 12 (mx_da t_X10_undo 3 rfl) rfl rfl (fun g9 => ?_) (fun g9 => ?_)
  · have h := h.1 g9
    refine mx_aload_n 0 (mx_da t_X10_undo 6 rfl) rfl rfl rfl rfl ?_
    refine mx_getR 31 fs_RX10_37 rfl (tp_s T 1 rfl) (tp_r T 30 rfl) (mx_da t_X10_undo 7 rfl) rfl ?_
    refine mx_aload_n 0 (mx_da t_X10_undo 8 rfl) rfl rfl rfl rfl ?_
    refine mx_getR 35 fs_RX10_47 rfl (tp_s T 1 rfl) (tp_r T 34 rfl) (mx_da t_X10_undo 9 rfl) rfl ?_
    refine mx_callV yX0_dropLatest m_X0_dropLatest [] mm_X0_dropLatest ml_RX10_278 im_X0_dropLatest se_X0_dropLatest (tp_s T 35 rfl) rfl rfl (Nat.le_of_ble_eq_true rfl) (mx_da t_X10_undo 10 rfl) rfl (Nat.le_of_ble_eq_true rfl) rfl ?_
    refine mx_mono h ?_
    intro o M1 ho
    obtain ⟨e1, e2, ho⟩ := ho
    obtain ⟨x2, rfl, h⟩ := ho
    refine ⟨e1, ?_⟩
    have T := tp_of e1 e2 T
    have ht0 := (congrFun (congrFun e2 1) 10).trans ht0
    clear e1 e2
    show mx_W m_X10_undo (d + 1) 23 [.ref 1] [.long x2, .ref 31] M1 Q
    refine mx_callV yX5_unpack m_X5_unpack [.long x2] mm_X5_unpack ml_RX10_281 im_X5_unpack se_X5_unpack (tp_s T 31 rfl) rfl rfl (Nat.le_of_ble_eq_true rfl) (mx_da t_X10_undo 11 rfl) rfl (Nat.le_of_ble_eq_true rfl) rfl ?_
    refine mx_mono h ?_
    intro o M3 ho
    obtain ⟨e1, e2, ho⟩ := ho
    obtain ⟨rfl, h⟩ := ho
    refine ⟨e1, ?_⟩
    have T := tp_of e1 e2 T
    have ht0 := (congrFun (congrFun e2 1) 10).trans ht0
    clear e1 e2
    show mx_W m_X10_undo (d + 1) 26 [.ref 1] [] M3 Q
    refine mx_aload_n 0 (mx_da t_X10_undo 12 rfl) rfl rfl rfl rfl ?_
    refine mx_getR 35 fs_RX10_47 rfl (tp_s T 1 rfl) (tp_r T 34 rfl) (mx_da t_X10_undo 13 rfl) rfl ?_
    refine mx_getI fs_RX10_147 rfl (tp_s T 35 rfl) (mx_da t_X10_undo 14 rfl) rfl ?_
    exact mx_iret rfl (mx_da t_X10_undo 15 rfl) h
  · have h := h.2 g9
    refine mx_iconst (v := (-1)) (mx_da t_X10_undo 4 rfl) rfl rfl ?_
    exact mx_iret rfl (mx_da t_X10_undo 5 rfl) h
set_option maxHeartbeats 1000000 in
theorem x_X10_image_0 {d : Nat} {M : mx_M} {Q : mx_O → mx_M → Prop} (T : mx_Tp M) (t : Nat) (ht : mx_Cat t) (ht0 : mx_R M 1 10 = t)
    (h : (mx_W m_X5_packed d 0 [.ref 31, .retAddr 0, .retAddr 0, .retAddr 0] [] M (fun o M1 => mx_sh M1 = mx_sh M ∧ mx_R M1 = mx_R M ∧ (∃ x2 : Int64, o = .inl (some (.long x2)) ∧ (∀ M3, M3 = mx_setJ M1 1 13 x2 → (mx_W m_X0_copy d 0 [.ref 37, .ref 35] [] M3 (fun o M4 => mx_sh M4 = mx_sh M3 ∧ mx_R M4 = mx_R M3 ∧ (o = .inl none ∧ (∀ M5, M5 = mx_setI M4 1 12 1 → Q (.inl none) M5))))))))) :
    mx_W m_X10_image (d + 1) 0 [.ref 1] [] M Q := by
  refine mx_aload_n 0 (mx_da t_X10_image 0 rfl) rfl rfl rfl rfl ?_
  refine mx_aload_n 0 (mx_da t_X10_image 1 rfl) rfl rfl rfl rfl ?_
  refine mx_getR 31 fs_RX10_37 rfl (tp_s T 1 rfl) (tp_r T 30 rfl) (mx_da t_X10_image 2 rfl) rfl ?_
  refine mx_callV yX5_packed m_X5_packed [] mm_X5_packed ml_RX10_255 im_X5_packed se_X5_packed (tp_s T 31 rfl) rfl rfl (Nat.le_of_ble_eq_true rfl) (mx_da t_X10_image 3 rfl) rfl (Nat.le_of_ble_eq_true rfl) rfl ?_
  refine mx_mono h ?_
  intro o M1 ho
  obtain ⟨e1, e2, ho⟩ := ho
  obtain ⟨x2, rfl, h⟩ := ho
  refine ⟨e1, ?_⟩
  have T := tp_of e1 e2 T
  have ht0 := (congrFun (congrFun e2 1) 10).trans ht0
  clear e1 e2
  show mx_W m_X10_image (d + 1) 8 [.ref 1] [.long x2, .ref 1] M1 Q
  refine mx_putJ fs_RX10_83 rfl (tp_s T 1 rfl) rfl (mx_da t_X10_image 4 rfl) rfl ?_
  refine mx_gen (mx_setJ M1 1 13 x2) (fun M3 e9 => ?_)
  have h := h _ e9
  have T : mx_Tp M3 := tp_e e9 T
  have ht0 : mx_R M3 1 10 = t := rr_e e9 ht0
  refine mx_aload_n 0 (mx_da t_X10_image 5 rfl) rfl rfl rfl rfl ?_
  refine mx_getR 37 fs_RX10_51 rfl (tp_s T 1 rfl) (tp_r T 36 rfl) (mx_da t_X10_image 6 rfl) rfl ?_
  refine mx_aload_n 0 (mx_da t_X10_image 7 rfl) rfl rfl rfl rfl ?_
  refine mx_getR 35 fs_RX10_47 rfl (tp_s T 1 rfl) (tp_r T 34 rfl) (mx_da t_X10_image 8 rfl) rfl ?_
  refine mx_callV yX0_copy m_X0_copy [.ref 35] mm_X0_copy ml_RX10_284 im_X0_copy se_X0_copy (tp_s T 37 rfl) rfl rfl (Nat.le_of_ble_eq_true rfl) (mx_da t_X10_image 9 rfl) rfl (Nat.le_of_ble_eq_true rfl) rfl ?_
  refine mx_mono h ?_
  intro o M4 ho
  obtain ⟨e1, e2, ho⟩ := ho
  obtain ⟨rfl, h⟩ := ho
  refine ⟨e1, ?_⟩
  have T := tp_of e1 e2 T
  have ht0 := (congrFun (congrFun e2 1) 10).trans ht0
  clear e1 e2
  show mx_W m_X10_image (d + 1) 22 [.ref 1] [] M4 Q
  refine mx_aload_n 0 (mx_da t_X10_image 10 rfl) rfl rfl rfl rfl ?_
  refine mx_iconst (v := 1) (mx_da t_X10_image 11 rfl) rfl rfl ?_
  refine mx_putI fs_RX10_79 rfl (tp_s T 1 rfl) rfl rfl rfl (mx_da t_X10_image 12 rfl) rfl ?_
  refine mx_gen (mx_setI M4 1 12 1) (fun M5 e9 => ?_)
  have h := h _ e9
  have T : mx_Tp M5 := tp_e e9 T
  have ht0 : mx_R M5 1 10 = t := rr_e e9 ht0
  exact mx_vret rfl (mx_da t_X10_image 13 rfl) h
set_option maxHeartbeats 1000000 in
theorem x_X10_restore_0 {d : Nat} {M : mx_M} {Q : mx_O → mx_M → Prop} (T : mx_Tp M) (t : Nat) (ht : mx_Cat t) (ht0 : mx_R M 1 10 = t)
    (h : ((¬ (mx_I M 1 12) = 0 → (mx_W m_X5_unpack d 0 [.ref 31, .long (mx_J M 1 13), .retAddr 0, .retAddr 0] [] M (fun o M1 => mx_sh M1 = mx_sh M ∧ mx_R M1 = mx_R M ∧ (o = .inl none ∧ (mx_W m_X0_copy d 0 [.ref 35, .ref 37] [] M1 (fun o M2 => mx_sh M2 = mx_sh M1 ∧ mx_R M2 = mx_R M1 ∧ (o = .inl none ∧ Q (.inl (some (.int (mx_b true)))) M2))))))) ∧ ((mx_I M 1 12) = 0 → Q (.inl (some (.int (mx_b false)))) M))) :
    mx_W m_X10_restore (d + 1) 0 [.ref 1] [] M Q := by
  refine mx_aload_n 0 (mx_da t_X10_restore 0 rfl) rfl rfl rfl rfl ?_
  refine mx_getI fs_RX10_79 rfl (tp_s T 1 rfl) (mx_da t_X10_restore 1 rfl) rfl ?_
  refine mx_if_ne 9 (mx_da t_X10_restore 2 rfl) rfl rfl (fun g9 => ?_) (fun g9 => ?_)
  · have h := h.1 g9
    refine mx_aload_n 0 (mx_da t_X10_restore 5 rfl) rfl rfl rfl rfl ?_
    refine mx_getR 31 fs_RX10_37 rfl (tp_s T 1 rfl) (tp_r T 30 rfl) (mx_da t_X10_restore 6 rfl) rfl ?_
    refine mx_aload_n 0 (mx_da t_X10_restore 7 rfl) rfl rfl rfl rfl ?_
    refine mx_getJ fs_RX10_83 rfl (tp_s T 1 rfl) (mx_da t_X10_restore 8 rfl) rfl ?_
    refine mx_callV yX5_unpack m_X5_unpack [.long (mx_J M 1 13)] mm_X5_unpack ml_RX10_281 im_X5_unpack se_X5_unpack (tp_s T 31 rfl) rfl rfl (Nat.le_of_ble_eq_true rfl) (mx_da t_X10_restore 9 rfl) rfl (Nat.le_of_ble_eq_true rfl) rfl ?_
    refine mx_mono h ?_
    intro o M1 ho
    obtain ⟨e1, e2, ho⟩ := ho
    obtain ⟨rfl, h⟩ := ho
    refine ⟨e1, ?_⟩
    have T := tp_of e1 e2 T
    have ht0 := (congrFun (congrFun e2 1) 10).trans ht0
    clear e1 e2
    show mx_W m_X10_restore (d + 1) 20 [.ref 1] [] M1 Q
    refine mx_aload_n 0 (mx_da t_X10_restore 10 rfl) rfl rfl rfl rfl ?_
    refine mx_getR 35 fs_RX10_47 rfl (tp_s T 1 rfl) (tp_r T 34 rfl) (mx_da t_X10_restore 11 rfl) rfl ?_
    refine mx_aload_n 0 (mx_da t_X10_restore 12 rfl) rfl rfl rfl rfl ?_
    refine mx_getR 37 fs_RX10_51 rfl (tp_s T 1 rfl) (tp_r T 36 rfl) (mx_da t_X10_restore 13 rfl) rfl ?_
    refine mx_callV yX0_copy m_X0_copy [.ref 37] mm_X0_copy ml_RX10_284 im_X0_copy se_X0_copy (tp_s T 35 rfl) rfl rfl (Nat.le_of_ble_eq_true rfl) (mx_da t_X10_restore 14 rfl) rfl (Nat.le_of_ble_eq_true rfl) rfl ?_
    refine mx_mono h ?_
    intro o M2 ho
    obtain ⟨e1, e2, ho⟩ := ho
    obtain ⟨rfl, h⟩ := ho
    refine ⟨e1, ?_⟩
    have T := tp_of e1 e2 T
    have ht0 := (congrFun (congrFun e2 1) 10).trans ht0
    clear e1 e2
    show mx_W m_X10_restore (d + 1) 31 [.ref 1] [] M2 Q
    refine mx_iconst (v := 1) (mx_da t_X10_restore 15 rfl) rfl rfl ?_
    exact mx_zret rfl rfl (mx_da t_X10_restore 16 rfl) h
  · have h := h.2 g9
    refine mx_iconst (v := 0) (mx_da t_X10_restore 3 rfl) rfl rfl ?_
    exact mx_zret rfl rfl (mx_da t_X10_restore 4 rfl) h
set_option maxHeartbeats 1000000 in
theorem x_X10_differ_0 {d : Nat} {M : mx_M} {Q : mx_O → mx_M → Prop} (T : mx_Tp M) (t : Nat) (ht : mx_Cat t) (ht0 : mx_R M 1 10 = t) (v1 : Int32) (v2 : Int32) (v3 : Int32)
    (h : (mx_W m_X10_needClerk d 0 [.ref 1, .int v1] [] M (fun o M1 => mx_sh M1 = mx_sh M ∧ mx_R M1 = mx_R M ∧ ((o = .inl none ∧ (mx_W m_X10_needClerk d 0 [.ref 1, .int v2] [] M1 (fun o M2 => mx_sh M2 = mx_sh M1 ∧ mx_R M2 = mx_R M1 ∧ ((o = .inl none ∧ (mx_W m_X10_needZeroOrOne d 0 [.int v3] [] M2 (fun o M3 => mx_sh M3 = mx_sh M2 ∧ mx_R M3 = mx_R M2 ∧ ((o = .inl none ∧ ((¬ v3 = 0 → (mx_W m_X10_firstCoupleApart d 0 [.ref 1, .int v1, .int v2, .retAddr 0, .retAddr 0] [] M3 (fun o M4 => mx_sh M4 = mx_sh M3 ∧ mx_R M4 = mx_R M3 ∧ (∃ x5 : Int32, o = .inl (some (.int x5)) ∧ Q (.inl (some (.int x5))) M4)))) ∧ (v3 = 0 → (mx_W m_X10_couplesApart d 0 [.ref 1, .int v1, .int v2, .retAddr 0, .retAddr 0, .retAddr 0] [] M3 (fun o M6 => mx_sh M6 = mx_sh M3 ∧ mx_R M6 = mx_R M3 ∧ (∃ x7 : Int32, o = .inl (some (.int x7)) ∧ Q (.inl (some (.int x7))) M6)))))) ∨ ∃ E, o = .inr E ∧ Q (.inr E) M3)))) ∨ ∃ E, o = .inr E ∧ Q (.inr E) M2)))) ∨ ∃ E, o = .inr E ∧ Q (.inr E) M1)))) :
    mx_W m_X10_differ (d + 1) 0 [.ref 1, .int v1, .int v2, .int v3] [] M Q := by
  refine mx_aload_n 0 (mx_da t_X10_differ 0 rfl) rfl rfl rfl rfl ?_
  refine mx_iload_n 1 (mx_da t_X10_differ 1 rfl) rfl rfl rfl ?_
  refine mx_callV yX10_needClerk m_X10_needClerk [.int v1] mm_X10_needClerk ml_RX10_184 im_X10_needClerk se_X10_needClerk (tp_s T 1 rfl) rfl rfl (Nat.le_of_ble_eq_true rfl) (mx_da t_X10_differ 2 rfl) rfl (Nat.le_of_ble_eq_true rfl) rfl ?_
  refine mx_mono h ?_
  intro o M1 ho
  obtain ⟨e1, e2, ho⟩ := ho
  rcases ho with ⟨rfl, h⟩ | ⟨E, rfl, h⟩
  rotate_left
  · exact ⟨e1, h⟩
  refine ⟨e1, ?_⟩
  have T := tp_of e1 e2 T
  have ht0 := (congrFun (congrFun e2 1) 10).trans ht0
  clear e1 e2
  show mx_W m_X10_differ (d + 1) 5 [.ref 1, .int v1, .int v2, .int v3] [] M1 Q
  refine mx_aload_n 0 (mx_da t_X10_differ 3 rfl) rfl rfl rfl rfl ?_
  refine mx_iload_n 2 (mx_da t_X10_differ 4 rfl) rfl rfl rfl ?_
  refine mx_callV yX10_needClerk m_X10_needClerk [.int v2] mm_X10_needClerk ml_RX10_184 im_X10_needClerk se_X10_needClerk (tp_s T 1 rfl) rfl rfl (Nat.le_of_ble_eq_true rfl) (mx_da t_X10_differ 5 rfl) rfl (Nat.le_of_ble_eq_true rfl) rfl ?_
  refine mx_mono h ?_
  intro o M2 ho
  obtain ⟨e1, e2, ho⟩ := ho
  rcases ho with ⟨rfl, h⟩ | ⟨E, rfl, h⟩
  rotate_left
  · exact ⟨e1, h⟩
  refine ⟨e1, ?_⟩
  have T := tp_of e1 e2 T
  have ht0 := (congrFun (congrFun e2 1) 10).trans ht0
  clear e1 e2
  show mx_W m_X10_differ (d + 1) 10 [.ref 1, .int v1, .int v2, .int v3] [] M2 Q
  refine mx_iload_n 3 (mx_da t_X10_differ 6 rfl) rfl rfl rfl ?_
  refine mx_callS yX10_needZeroOrOne m_X10_needZeroOrOne [.int v3] mm_X10_needZeroOrOne ml_RX10_287 st_X10_needZeroOrOne rfl (Nat.le_of_ble_eq_true rfl) (mx_da t_X10_differ 7 rfl) rfl (Nat.le_of_ble_eq_true rfl) rfl ?_
  refine mx_mono h ?_
  intro o M3 ho
  obtain ⟨e1, e2, ho⟩ := ho
  rcases ho with ⟨rfl, h⟩ | ⟨E, rfl, h⟩
  rotate_left
  · exact ⟨e1, h⟩
  refine ⟨e1, ?_⟩
  have T := tp_of e1 e2 T
  have ht0 := (congrFun (congrFun e2 1) 10).trans ht0
  clear e1 e2
  show mx_W m_X10_differ (d + 1) 14 [.ref 1, .int v1, .int v2, .int v3] [] M3 Q
  refine mx_iload_n 3 (mx_da t_X10_differ 8 rfl) rfl rfl rfl ?_
  refine mx_if_ne 27 (mx_da t_X10_differ 9 rfl) rfl rfl (fun g9 => ?_) (fun g9 => ?_)
  · have h := h.1 g9
    refine mx_aload_n 0 (mx_da t_X10_differ 15 rfl) rfl rfl rfl rfl ?_
    refine mx_iload_n 1 (mx_da t_X10_differ 16 rfl) rfl rfl rfl ?_
    refine mx_iload_n 2 (mx_da t_X10_differ 17 rfl) rfl rfl rfl ?_
    refine mx_callV yX10_firstCoupleApart m_X10_firstCoupleApart [.int v1, .int v2] mm_X10_firstCoupleApart ml_RX10_293 im_X10_firstCoupleApart se_X10_firstCoupleApart (tp_s T 1 rfl) rfl rfl (Nat.le_of_ble_eq_true rfl) (mx_da t_X10_differ 18 rfl) rfl (Nat.le_of_ble_eq_true rfl) rfl ?_
    refine mx_mono h ?_
    intro o M4 ho
    obtain ⟨e1, e2, ho⟩ := ho
    obtain ⟨x5, rfl, h⟩ := ho
    refine ⟨e1, ?_⟩
    have T := tp_of e1 e2 T
    have ht0 := (congrFun (congrFun e2 1) 10).trans ht0
    clear e1 e2
    show mx_W m_X10_differ (d + 1) 33 [.ref 1, .int v1, .int v2, .int v3] [.int x5] M4 Q
    exact mx_iret rfl (mx_da t_X10_differ 19 rfl) h
  · have h := h.2 g9
    refine mx_aload_n 0 (mx_da t_X10_differ 10 rfl) rfl rfl rfl rfl ?_
    refine mx_iload_n 1 (mx_da t_X10_differ 11 rfl) rfl rfl rfl ?_
    refine mx_iload_n 2 (mx_da t_X10_differ 12 rfl) rfl rfl rfl ?_
    refine mx_callV yX10_couplesApart m_X10_couplesApart [.int v1, .int v2] mm_X10_couplesApart ml_RX10_290 im_X10_couplesApart se_X10_couplesApart (tp_s T 1 rfl) rfl rfl (Nat.le_of_ble_eq_true rfl) (mx_da t_X10_differ 13 rfl) rfl (Nat.le_of_ble_eq_true rfl) rfl ?_
    refine mx_mono h ?_
    intro o M6 ho
    obtain ⟨e1, e2, ho⟩ := ho
    obtain ⟨x7, rfl, h⟩ := ho
    refine ⟨e1, ?_⟩
    have T := tp_of e1 e2 T
    have ht0 := (congrFun (congrFun e2 1) 10).trans ht0
    clear e1 e2
    show mx_W m_X10_differ (d + 1) 24 [.ref 1, .int v1, .int v2, .int v3] [.int x7] M6 Q
    refine mx_goto (n := 33) (mx_da t_X10_differ 14 rfl) rfl ?_
    exact mx_iret rfl (mx_da t_X10_differ 19 rfl) h
set_option maxHeartbeats 1000000 in
theorem x_X10_isApart_0 {d : Nat} {M : mx_M} {Q : mx_O → mx_M → Prop} (T : mx_Tp M) (t : Nat) (ht : mx_Cat t) (ht0 : mx_R M 1 10 = t) (v1 : Int32) (v2 : Int32) (v3 : Int32) (v4 : Int32)
    (h : (mx_W m_X3_isAhead d 0 [.ref 24, .int v1, .int v3, .int v4] [] M (fun o M1 => mx_sh M1 = mx_sh M ∧ mx_R M1 = mx_R M ∧ (∃ x2 : Bool, o = .inl (some (.int (mx_b x2))) ∧ (mx_W m_X3_isAhead d 0 [.ref 24, .int v2, .int v3, .int v4] [] M1 (fun o M3 => mx_sh M3 = mx_sh M1 ∧ mx_R M3 = mx_R M1 ∧ (∃ x4 : Bool, o = .inl (some (.int (mx_b x4))) ∧ (((mx_b x2) = (mx_b x4) → Q (.inl (some (.int (mx_b false)))) M3) ∧ (¬ (mx_b x2) = (mx_b x4) → Q (.inl (some (.int (mx_b true)))) M3))))))))) :
    mx_W m_X10_isApart (d + 1) 0 [.ref 1, .int v1, .int v2, .int v3, .int v4] [] M Q := by
  refine mx_aload_n 0 (mx_da t_X10_isApart 0 rfl) rfl rfl rfl rfl ?_
  refine mx_getR 24 fs_RX10_30 rfl (tp_s T 1 rfl) (tp_r T 28 rfl) (mx_da t_X10_isApart 1 rfl) rfl ?_
  refine mx_iload_n 1 (mx_da t_X10_isApart 2 rfl) rfl rfl rfl ?_
  refine mx_iload_n 3 (mx_da t_X10_isApart 3 rfl) rfl rfl rfl ?_
  refine mx_iload 4 (mx_da t_X10_isApart 4 rfl) rfl rfl ?_
  refine mx_callV yX3_isAhead m_X3_isAhead [.int v1, .int v3, .int v4] mm_X3_isAhead ml_RX10_236 im_X3_isAhead se_X3_isAhead (tp_s T 24 rfl) rfl rfl (Nat.le_of_ble_eq_true rfl) (mx_da t_X10_isApart 5 rfl) rfl (Nat.le_of_ble_eq_true rfl) rfl ?_
  refine mx_mono h ?_
  intro o M1 ho
  obtain ⟨e1, e2, ho⟩ := ho
  obtain ⟨x2, rfl, h⟩ := ho
  refine ⟨e1, ?_⟩
  have T := tp_of e1 e2 T
  have ht0 := (congrFun (congrFun e2 1) 10).trans ht0
  clear e1 e2
  show mx_W m_X10_isApart (d + 1) 11 [.ref 1, .int v1, .int v2, .int v3, .int v4] [.int (mx_b x2)] M1 Q
  refine mx_aload_n 0 (mx_da t_X10_isApart 6 rfl) rfl rfl rfl rfl ?_
  refine mx_getR 24 fs_RX10_30 rfl (tp_s T 1 rfl) (tp_r T 28 rfl) (mx_da t_X10_isApart 7 rfl) rfl ?_
  refine mx_iload_n 2 (mx_da t_X10_isApart 8 rfl) rfl rfl rfl ?_
  refine mx_iload_n 3 (mx_da t_X10_isApart 9 rfl) rfl rfl rfl ?_
  refine mx_iload 4 (mx_da t_X10_isApart 10 rfl) rfl rfl ?_
  refine mx_callV yX3_isAhead m_X3_isAhead [.int v2, .int v3, .int v4] mm_X3_isAhead ml_RX10_236 im_X3_isAhead se_X3_isAhead (tp_s T 24 rfl) rfl rfl (Nat.le_of_ble_eq_true rfl) (mx_da t_X10_isApart 11 rfl) rfl (Nat.le_of_ble_eq_true rfl) rfl ?_
  refine mx_mono h ?_
  intro o M3 ho
  obtain ⟨e1, e2, ho⟩ := ho
  obtain ⟨x4, rfl, h⟩ := ho
  refine ⟨e1, ?_⟩
  have T := tp_of e1 e2 T
  have ht0 := (congrFun (congrFun e2 1) 10).trans ht0
  clear e1 e2
  show mx_W m_X10_isApart (d + 1) 22 [.ref 1, .int v1, .int v2, .int v3, .int v4] [.int (mx_b x4), .int (mx_b x2)] M3 Q
  refine mx_icmp_eq 29 (mx_da t_X10_isApart 12 rfl) rfl rfl (fun g9 => ?_) (fun g9 => ?_)
  · have h := h.1 g9
    refine mx_iconst (v := 0) (mx_da t_X10_isApart 15 rfl) rfl rfl ?_
    exact mx_zret rfl rfl (mx_da t_X10_isApart 16 rfl) h
  · have h := h.2 g9
    refine mx_iconst (v := 1) (mx_da t_X10_isApart 13 rfl) rfl rfl ?_
    refine mx_goto (n := 30) (mx_da t_X10_isApart 14 rfl) rfl ?_
    exact mx_zret rfl rfl (mx_da t_X10_isApart 16 rfl) h
set_option maxHeartbeats 1000000 in
theorem x_X10_couplesApart_0 {d : Nat} {M : mx_M} {Q : mx_O → mx_M → Prop} (T : mx_Tp M) (t : Nat) (ht : mx_Cat t) (ht0 : mx_R M 1 10 = t) (v1 : Int32) (v2 : Int32)
    (h : mx_W m_X10_couplesApart (d + 1) 5 [.ref 1, .int v1, .int v2, .int 0, .int 0, .retAddr 0] [] M Q) :
    mx_W m_X10_couplesApart (d + 1) 0 [.ref 1, .int v1, .int v2, .retAddr 0, .retAddr 0, .retAddr 0] [] M Q := by
  refine mx_iconst (v := 0) (mx_da t_X10_couplesApart 0 rfl) rfl rfl ?_
  refine mx_istore_n 3 [.ref 1, .int v1, .int v2, .int 0, .retAddr 0, .retAddr 0] (mx_da t_X10_couplesApart 1 rfl) rfl rfl (by decide) rfl ?_
  refine mx_iconst (v := 0) (mx_da t_X10_couplesApart 2 rfl) rfl rfl ?_
  refine mx_istore 4 [.ref 1, .int v1, .int v2, .int 0, .int 0, .retAddr 0] (mx_da t_X10_couplesApart 3 rfl) rfl (by decide) rfl ?_
  exact h
set_option maxHeartbeats 1000000 in
theorem x_X10_couplesApart_5 {d : Nat} {M : mx_M} {Q : mx_O → mx_M → Prop} (T : mx_Tp M) (t : Nat) (ht : mx_Cat t) (ht0 : mx_R M 1 10 = t) (v1 : Int32) (v2 : Int32) (v3 : Int32) (v4 : Int32)
    (h : (((mx_I M t 12) ≤ v4 → Q (.inl (some (.int v3))) M) ∧ (¬ (mx_I M t 12) ≤ v4 → mx_W m_X10_couplesApart (d + 1) 23 [.ref 1, .int v1, .int v2, .int v3, .int v4, .int (v4 + 1)] [] M Q))) :
    mx_W m_X10_couplesApart (d + 1) 5 [.ref 1, .int v1, .int v2, .int v3, .int v4, .retAddr 0] [] M Q := by
  refine mx_iload 4 (mx_da t_X10_couplesApart 4 rfl) rfl rfl ?_
  refine mx_aload_n 0 (mx_da t_X10_couplesApart 5 rfl) rfl rfl rfl rfl ?_
  refine mx_getR t fs_RX10_71 rfl (tp_s T 1 rfl) ht0 (mx_da t_X10_couplesApart 6 rfl) rfl ?_
  refine mx_getI fs_RX10_148 rfl (cat_s T ht) (mx_da t_X10_couplesApart 7 rfl) rfl ?_
  refine mx_icmp_ge 63 (mx_da t_X10_couplesApart 8 rfl) rfl rfl (fun g9 => ?_) (fun g9 => ?_)
  · have h := h.1 g9
    refine mx_iload_n 3 (mx_da t_X10_couplesApart 30 rfl) rfl rfl rfl ?_
    exact mx_iret rfl (mx_da t_X10_couplesApart 31 rfl) h
  · have h := h.2 g9
    refine mx_iload 4 (mx_da t_X10_couplesApart 9 rfl) rfl rfl ?_
    refine mx_iconst (v := 1) (mx_da t_X10_couplesApart 10 rfl) rfl rfl ?_
    refine mx_iadd (mx_da t_X10_couplesApart 11 rfl) rfl ?_
    refine mx_istore 5 [.ref 1, .int v1, .int v2, .int v3, .int v4, .int (v4 + 1)] (mx_da t_X10_couplesApart 12 rfl) rfl (by decide) rfl ?_
    exact h
set_option maxHeartbeats 1000000 in
theorem x_X10_couplesApart_23 {d : Nat} {M : mx_M} {Q : mx_O → mx_M → Prop} (T : mx_Tp M) (t : Nat) (ht : mx_Cat t) (ht0 : mx_R M 1 10 = t) (v1 : Int32) (v2 : Int32) (v3 : Int32) (v4 : Int32) (v5 : Int32)
    (h : (((mx_I M t 12) ≤ v5 → mx_W m_X10_couplesApart (d + 1) 5 [.ref 1, .int v1, .int v2, .int v3, .int (v4 + 1), .retAddr 0] [] M Q) ∧ (¬ (mx_I M t 12) ≤ v5 → (mx_W m_X10_isApart d 0 [.ref 1, .int v1, .int v2, .int v4, .int v5] [] M (fun o M1 => mx_sh M1 = mx_sh M ∧ mx_R M1 = mx_R M ∧ (∃ x2 : Bool, o = .inl (some (.int (mx_b x2))) ∧ ((x2 = false → mx_W m_X10_couplesApart (d + 1) 23 [.ref 1, .int v1, .int v2, .int v3, .int v4, .int (v5 + 1)] [] M1 Q) ∧ (x2 = true → mx_W m_X10_couplesApart (d + 1) 23 [.ref 1, .int v1, .int v2, .int (v3 + 1), .int v4, .int (v5 + 1)] [] M1 Q)))))))) :
    mx_W m_X10_couplesApart (d + 1) 23 [.ref 1, .int v1, .int v2, .int v3, .int v4, .int v5] [] M Q := by
  refine mx_iload 5 (mx_da t_X10_couplesApart 13 rfl) rfl rfl ?_
  refine mx_aload_n 0 (mx_da t_X10_couplesApart 14 rfl) rfl rfl rfl rfl ?_
  refine mx_getR t fs_RX10_71 rfl (tp_s T 1 rfl) ht0 (mx_da t_X10_couplesApart 15 rfl) rfl ?_
  refine mx_getI fs_RX10_148 rfl (cat_s T ht) (mx_da t_X10_couplesApart 16 rfl) rfl ?_
  refine mx_icmp_ge 57 (mx_da t_X10_couplesApart 17 rfl) rfl rfl (fun g9 => ?_) (fun g9 => ?_)
  · have h := h.1 g9
    refine mx_iinc 4 (v := v4 + 1) [.ref 1, .int v1, .int v2, .int v3, .int (v4 + 1), .int v5] (mx_da t_X10_couplesApart 28 rfl) rfl (by decide) rfl rfl rfl ?_
    refine mx_goto (n := 5) (mx_da t_X10_couplesApart 29 rfl) rfl ?_
    exact mx_wkn [.ref 1, .int v1, .int v2, .int v3, .int (v4 + 1), .retAddr 0] ⟨Or.inr rfl, Or.inr rfl, Or.inr rfl, Or.inr rfl, Or.inr rfl, Or.inl rfl, trivial⟩ h
  · have h := h.2 g9
    refine mx_aload_n 0 (mx_da t_X10_couplesApart 18 rfl) rfl rfl rfl rfl ?_
    refine mx_iload_n 1 (mx_da t_X10_couplesApart 19 rfl) rfl rfl rfl ?_
    refine mx_iload_n 2 (mx_da t_X10_couplesApart 20 rfl) rfl rfl rfl ?_
    refine mx_iload 4 (mx_da t_X10_couplesApart 21 rfl) rfl rfl ?_
    refine mx_iload 5 (mx_da t_X10_couplesApart 22 rfl) rfl rfl ?_
    refine mx_callV yX10_isApart m_X10_isApart [.int v1, .int v2, .int v4, .int v5] mm_X10_isApart ml_RX10_296 im_X10_isApart se_X10_isApart (tp_s T 1 rfl) rfl rfl (Nat.le_of_ble_eq_true rfl) (mx_da t_X10_couplesApart 23 rfl) rfl (Nat.le_of_ble_eq_true rfl) rfl ?_
    refine mx_mono h ?_
    intro o M1 ho
    obtain ⟨e1, e2, ho⟩ := ho
    obtain ⟨x2, rfl, h⟩ := ho
    refine ⟨e1, ?_⟩
    have T := tp_of e1 e2 T
    have ht0 := (congrFun (congrFun e2 1) 10).trans ht0
    clear e1 e2
    show mx_W m_X10_couplesApart (d + 1) 45 [.ref 1, .int v1, .int v2, .int v3, .int v4, .int v5] [.int (mx_b x2)] M1 Q
    refine mx_if_eq 51 (mx_da t_X10_couplesApart 24 rfl) rfl rfl (fun g9 => ?_) (fun g9 => ?_)
    · have h := h.1 (mx_b0.mp g9)
      refine mx_iinc 5 (v := v5 + 1) [.ref 1, .int v1, .int v2, .int v3, .int v4, .int (v5 + 1)] (mx_da t_X10_couplesApart 26 rfl) rfl (by decide) rfl rfl rfl ?_
      refine mx_goto (n := 23) (mx_da t_X10_couplesApart 27 rfl) rfl ?_
      exact h
    · have h := h.2 (mx_bn.mp g9)
      refine mx_iinc 3 (v := v3 + 1) [.ref 1, .int v1, .int v2, .int (v3 + 1), .int v4, .int v5] (mx_da t_X10_couplesApart 25 rfl) rfl (by decide) rfl rfl rfl ?_
      refine mx_iinc 5 (v := v5 + 1) [.ref 1, .int v1, .int v2, .int (v3 + 1), .int v4, .int (v5 + 1)] (mx_da t_X10_couplesApart 26 rfl) rfl (by decide) rfl rfl rfl ?_
      refine mx_goto (n := 23) (mx_da t_X10_couplesApart 27 rfl) rfl ?_
      exact h
set_option maxHeartbeats 1000000 in
theorem x_X10_firstCoupleApart_0 {d : Nat} {M : mx_M} {Q : mx_O → mx_M → Prop} (T : mx_Tp M) (t : Nat) (ht : mx_Cat t) (ht0 : mx_R M 1 10 = t) (v1 : Int32) (v2 : Int32)
    (h : mx_W m_X10_firstCoupleApart (d + 1) 2 [.ref 1, .int v1, .int v2, .int 0, .retAddr 0] [] M Q) :
    mx_W m_X10_firstCoupleApart (d + 1) 0 [.ref 1, .int v1, .int v2, .retAddr 0, .retAddr 0] [] M Q := by
  refine mx_iconst (v := 0) (mx_da t_X10_firstCoupleApart 0 rfl) rfl rfl ?_
  refine mx_istore_n 3 [.ref 1, .int v1, .int v2, .int 0, .retAddr 0] (mx_da t_X10_firstCoupleApart 1 rfl) rfl rfl (by decide) rfl ?_
  exact h
set_option maxHeartbeats 1000000 in
theorem x_X10_firstCoupleApart_2 {d : Nat} {M : mx_M} {Q : mx_O → mx_M → Prop} (T : mx_Tp M) (t : Nat) (ht : mx_Cat t) (ht0 : mx_R M 1 10 = t) (v1 : Int32) (v2 : Int32) (v3 : Int32)
    (h : (((mx_I M t 12) ≤ v3 → Q (.inl (some (.int (-1)))) M) ∧ (¬ (mx_I M t 12) ≤ v3 → mx_W m_X10_firstCoupleApart (d + 1) 18 [.ref 1, .int v1, .int v2, .int v3, .int (v3 + 1)] [] M Q))) :
    mx_W m_X10_firstCoupleApart (d + 1) 2 [.ref 1, .int v1, .int v2, .int v3, .retAddr 0] [] M Q := by
  refine mx_iload_n 3 (mx_da t_X10_firstCoupleApart 2 rfl) rfl rfl rfl ?_
  refine mx_aload_n 0 (mx_da t_X10_firstCoupleApart 3 rfl) rfl rfl rfl rfl ?_
  refine mx_getR t fs_RX10_71 rfl (tp_s T 1 rfl) ht0 (mx_da t_X10_firstCoupleApart 4 rfl) rfl ?_
  refine mx_getI fs_RX10_148 rfl (cat_s T ht) (mx_da t_X10_firstCoupleApart 5 rfl) rfl ?_
  refine mx_icmp_ge 62 (mx_da t_X10_firstCoupleApart 6 rfl) rfl rfl (fun g9 => ?_) (fun g9 => ?_)
  · have h := h.1 g9
    refine mx_iconst (v := (-1)) (mx_da t_X10_firstCoupleApart 33 rfl) rfl rfl ?_
    exact mx_iret rfl (mx_da t_X10_firstCoupleApart 34 rfl) h
  · have h := h.2 g9
    refine mx_iload_n 3 (mx_da t_X10_firstCoupleApart 7 rfl) rfl rfl rfl ?_
    refine mx_iconst (v := 1) (mx_da t_X10_firstCoupleApart 8 rfl) rfl rfl ?_
    refine mx_iadd (mx_da t_X10_firstCoupleApart 9 rfl) rfl ?_
    refine mx_istore 4 [.ref 1, .int v1, .int v2, .int v3, .int (v3 + 1)] (mx_da t_X10_firstCoupleApart 10 rfl) rfl (by decide) rfl ?_
    exact h
set_option maxHeartbeats 1000000 in
theorem x_X10_firstCoupleApart_18 {d : Nat} {M : mx_M} {Q : mx_O → mx_M → Prop} (T : mx_Tp M) (t : Nat) (ht : mx_Cat t) (ht0 : mx_R M 1 10 = t) (v1 : Int32) (v2 : Int32) (v3 : Int32) (v4 : Int32)
    (h : (((mx_I M t 12) ≤ v4 → mx_W m_X10_firstCoupleApart (d + 1) 2 [.ref 1, .int v1, .int v2, .int (v3 + 1), .retAddr 0] [] M Q) ∧ (¬ (mx_I M t 12) ≤ v4 → (mx_W m_X10_isApart d 0 [.ref 1, .int v1, .int v2, .int v3, .int v4] [] M (fun o M1 => mx_sh M1 = mx_sh M ∧ mx_R M1 = mx_R M ∧ (∃ x2 : Bool, o = .inl (some (.int (mx_b x2))) ∧ ((x2 = false → mx_W m_X10_firstCoupleApart (d + 1) 18 [.ref 1, .int v1, .int v2, .int v3, .int (v4 + 1)] [] M1 Q) ∧ (x2 = true → Q (.inl (some (.int ((10 * v3) + v4)))) M1)))))))) :
    mx_W m_X10_firstCoupleApart (d + 1) 18 [.ref 1, .int v1, .int v2, .int v3, .int v4] [] M Q := by
  refine mx_iload 4 (mx_da t_X10_firstCoupleApart 11 rfl) rfl rfl ?_
  refine mx_aload_n 0 (mx_da t_X10_firstCoupleApart 12 rfl) rfl rfl rfl rfl ?_
  refine mx_getR t fs_RX10_71 rfl (tp_s T 1 rfl) ht0 (mx_da t_X10_firstCoupleApart 13 rfl) rfl ?_
  refine mx_getI fs_RX10_148 rfl (cat_s T ht) (mx_da t_X10_firstCoupleApart 14 rfl) rfl ?_
  refine mx_icmp_ge 56 (mx_da t_X10_firstCoupleApart 15 rfl) rfl rfl (fun g9 => ?_) (fun g9 => ?_)
  · have h := h.1 g9
    refine mx_iinc 3 (v := v3 + 1) [.ref 1, .int v1, .int v2, .int (v3 + 1), .int v4] (mx_da t_X10_firstCoupleApart 31 rfl) rfl (by decide) rfl rfl rfl ?_
    refine mx_goto (n := 2) (mx_da t_X10_firstCoupleApart 32 rfl) rfl ?_
    exact mx_wkn [.ref 1, .int v1, .int v2, .int (v3 + 1), .retAddr 0] ⟨Or.inr rfl, Or.inr rfl, Or.inr rfl, Or.inr rfl, Or.inl rfl, trivial⟩ h
  · have h := h.2 g9
    refine mx_aload_n 0 (mx_da t_X10_firstCoupleApart 16 rfl) rfl rfl rfl rfl ?_
    refine mx_iload_n 1 (mx_da t_X10_firstCoupleApart 17 rfl) rfl rfl rfl ?_
    refine mx_iload_n 2 (mx_da t_X10_firstCoupleApart 18 rfl) rfl rfl rfl ?_
    refine mx_iload_n 3 (mx_da t_X10_firstCoupleApart 19 rfl) rfl rfl rfl ?_
    refine mx_iload 4 (mx_da t_X10_firstCoupleApart 20 rfl) rfl rfl ?_
    refine mx_callV yX10_isApart m_X10_isApart [.int v1, .int v2, .int v3, .int v4] mm_X10_isApart ml_RX10_296 im_X10_isApart se_X10_isApart (tp_s T 1 rfl) rfl rfl (Nat.le_of_ble_eq_true rfl) (mx_da t_X10_firstCoupleApart 21 rfl) rfl (Nat.le_of_ble_eq_true rfl) rfl ?_
    refine mx_mono h ?_
    intro o M1 ho
    obtain ⟨e1, e2, ho⟩ := ho
    obtain ⟨x2, rfl, h⟩ := ho
    refine ⟨e1, ?_⟩
    have T := tp_of e1 e2 T
    have ht0 := (congrFun (congrFun e2 1) 10).trans ht0
    clear e1 e2
    show mx_W m_X10_firstCoupleApart (d + 1) 39 [.ref 1, .int v1, .int v2, .int v3, .int v4] [.int (mx_b x2)] M1 Q
    refine mx_if_eq 50 (mx_da t_X10_firstCoupleApart 22 rfl) rfl rfl (fun g9 => ?_) (fun g9 => ?_)
    · have h := h.1 (mx_b0.mp g9)
      refine mx_iinc 4 (v := v4 + 1) [.ref 1, .int v1, .int v2, .int v3, .int (v4 + 1)] (mx_da t_X10_firstCoupleApart 29 rfl) rfl (by decide) rfl rfl rfl ?_
      refine mx_goto (n := 18) (mx_da t_X10_firstCoupleApart 30 rfl) rfl ?_
      exact h
    · have h := h.2 (mx_bn.mp g9)
      refine mx_bipush (v := 10) (mx_da t_X10_firstCoupleApart 23 rfl) rfl rfl ?_
      refine mx_iload_n 3 (mx_da t_X10_firstCoupleApart 24 rfl) rfl rfl rfl ?_
      refine mx_imul (mx_da t_X10_firstCoupleApart 25 rfl) rfl ?_
      refine mx_iload 4 (mx_da t_X10_firstCoupleApart 26 rfl) rfl rfl ?_
      refine mx_iadd (mx_da t_X10_firstCoupleApart 27 rfl) rfl ?_
      exact mx_iret rfl (mx_da t_X10_firstCoupleApart 28 rfl) h
set_option maxHeartbeats 1000000 in
theorem x_X10_closest_0 {d : Nat} {M : mx_M} {Q : mx_O → mx_M → Prop} (T : mx_Tp M) (t : Nat) (ht : mx_Cat t) (ht0 : mx_R M 1 10 = t) (v1 : Int32)
    (h : (mx_W m_X10_needZeroOrOne d 0 [.int v1] [] M (fun o M1 => mx_sh M1 = mx_sh M ∧ mx_R M1 = mx_R M ∧ ((o = .inl none ∧ mx_W m_X10_closest (d + 1) 11 [.ref 1, .int v1, .int (-1), .int (-1), .int 0, .retAddr 0, .retAddr 0] [] M1 Q) ∨ ∃ E, o = .inr E ∧ Q (.inr E) M1)))) :
    mx_W m_X10_closest (d + 1) 0 [.ref 1, .int v1, .retAddr 0, .retAddr 0, .retAddr 0, .retAddr 0, .retAddr 0] [] M Q := by
  refine mx_iload_n 1 (mx_da t_X10_closest 0 rfl) rfl rfl rfl ?_
  refine mx_callS yX10_needZeroOrOne m_X10_needZeroOrOne [.int v1] mm_X10_needZeroOrOne ml_RX10_287 st_X10_needZeroOrOne rfl (Nat.le_of_ble_eq_true rfl) (mx_da t_X10_closest 1 rfl) rfl (Nat.le_of_ble_eq_true rfl) rfl ?_
  refine mx_mono h ?_
  intro o M1 ho
  obtain ⟨e1, e2, ho⟩ := ho
  rcases ho with ⟨rfl, h⟩ | ⟨E, rfl, h⟩
  rotate_left
  · exact ⟨e1, h⟩
  refine ⟨e1, ?_⟩
  have T := tp_of e1 e2 T
  have ht0 := (congrFun (congrFun e2 1) 10).trans ht0
  clear e1 e2
  show mx_W m_X10_closest (d + 1) 4 [.ref 1, .int v1, .retAddr 0, .retAddr 0, .retAddr 0, .retAddr 0, .retAddr 0] [] M1 Q
  refine mx_iconst (v := (-1)) (mx_da t_X10_closest 2 rfl) rfl rfl ?_
  refine mx_istore_n 2 [.ref 1, .int v1, .int (-1), .retAddr 0, .retAddr 0, .retAddr 0, .retAddr 0] (mx_da t_X10_closest 3 rfl) rfl rfl (by decide) rfl ?_
  refine mx_iconst (v := (-1)) (mx_da t_X10_closest 4 rfl) rfl rfl ?_
  refine mx_istore_n 3 [.ref 1, .int v1, .int (-1), .int (-1), .retAddr 0, .retAddr 0, .retAddr 0] (mx_da t_X10_closest 5 rfl) rfl rfl (by decide) rfl ?_
  refine mx_iconst (v := 0) (mx_da t_X10_closest 6 rfl) rfl rfl ?_
  refine mx_istore 4 [.ref 1, .int v1, .int (-1), .int (-1), .int 0, .retAddr 0, .retAddr 0] (mx_da t_X10_closest 7 rfl) rfl (by decide) rfl ?_
  exact h
set_option maxHeartbeats 1000000 in
theorem x_X10_closest_11 {d : Nat} {M : mx_M} {Q : mx_O → mx_M → Prop} (T : mx_Tp M) (t : Nat) (ht : mx_Cat t) (ht0 : mx_R M 1 10 = t) (v1 : Int32) (v2 : Int32) (v3 : Int32) (v4 : Int32)
    (h : (((mx_I M t 13) ≤ v4 → ((¬ v1 = 0 → Q (.inl (some (.int v3))) M) ∧ (v1 = 0 → Q (.inl (some (.int v2))) M))) ∧ (¬ (mx_I M t 13) ≤ v4 → mx_W m_X10_closest (d + 1) 29 [.ref 1, .int v1, .int v2, .int v3, .int v4, .int (v4 + 1), .retAddr 0] [] M Q))) :
    mx_W m_X10_closest (d + 1) 11 [.ref 1, .int v1, .int v2, .int v3, .int v4, .retAddr 0, .retAddr 0] [] M Q := by
  refine mx_iload 4 (mx_da t_X10_closest 8 rfl) rfl rfl ?_
  refine mx_aload_n 0 (mx_da t_X10_closest 9 rfl) rfl rfl rfl rfl ?_
  refine mx_getR t fs_RX10_71 rfl (tp_s T 1 rfl) ht0 (mx_da t_X10_closest 10 rfl) rfl ?_
  refine mx_getI fs_RX10_130 rfl (cat_s T ht) (mx_da t_X10_closest 11 rfl) rfl ?_
  refine mx_icmp_ge 86 (mx_da t_X10_closest 12 rfl) rfl rfl (fun g9 => ?_) (fun g9 => ?_)
  · have h := h.1 g9
    refine mx_iload_n 1 (mx_da t_X10_closest 45 rfl) rfl rfl rfl ?_
    refine mx_if_ne 94 (mx_da t_X10_closest 46 rfl) rfl rfl (fun g9 => ?_) (fun g9 => ?_)
    · have h := h.1 g9
      refine mx_iload_n 3 (mx_da t_X10_closest 49 rfl) rfl rfl rfl ?_
      exact mx_iret rfl (mx_da t_X10_closest 50 rfl) h
    · have h := h.2 g9
      refine mx_iload_n 2 (mx_da t_X10_closest 47 rfl) rfl rfl rfl ?_
      refine mx_goto (n := 95) (mx_da t_X10_closest 48 rfl) rfl ?_
      exact mx_iret rfl (mx_da t_X10_closest 50 rfl) h
  · have h := h.2 g9
    refine mx_iload 4 (mx_da t_X10_closest 13 rfl) rfl rfl ?_
    refine mx_iconst (v := 1) (mx_da t_X10_closest 14 rfl) rfl rfl ?_
    refine mx_iadd (mx_da t_X10_closest 15 rfl) rfl ?_
    refine mx_istore 5 [.ref 1, .int v1, .int v2, .int v3, .int v4, .int (v4 + 1), .retAddr 0] (mx_da t_X10_closest 16 rfl) rfl (by decide) rfl ?_
    exact h
set_option maxHeartbeats 1000000 in
theorem x_X10_closest_29 {d : Nat} {M : mx_M} {Q : mx_O → mx_M → Prop} (T : mx_Tp M) (t : Nat) (ht : mx_Cat t) (ht0 : mx_R M 1 10 = t) (v1 : Int32) (v2 : Int32) (v3 : Int32) (v4 : Int32) (v5 : Int32)
    (h : (((mx_I M t 13) ≤ v5 → mx_W m_X10_closest (d + 1) 11 [.ref 1, .int v1, .int v2, .int v3, .int (v4 + 1), .retAddr 0, .retAddr 0] [] M Q) ∧ (¬ (mx_I M t 13) ≤ v5 → (mx_W m_X10_couplesApart d 0 [.ref 1, .int v4, .int v5, .retAddr 0, .retAddr 0, .retAddr 0] [] M (fun o M1 => mx_sh M1 = mx_sh M ∧ mx_R M1 = mx_R M ∧ (∃ x2 : Int32, o = .inl (some (.int x2)) ∧ ((v2 = (-1 : Int32) → mx_W m_X10_closest (d + 1) 29 [.ref 1, .int v1, .int x2, .int ((10 * v4) + v5), .int v4, .int (v5 + 1), .retAddr 0] [] M1 Q) ∧ (¬ v2 = (-1 : Int32) → ((v2 ≤ x2 → mx_W m_X10_closest (d + 1) 29 [.ref 1, .int v1, .int v2, .int v3, .int v4, .int (v5 + 1), .retAddr 0] [] M1 Q) ∧ (¬ v2 ≤ x2 → mx_W m_X10_closest (d + 1) 29 [.ref 1, .int v1, .int x2, .int ((10 * v4) + v5), .int v4, .int (v5 + 1), .retAddr 0] [] M1 Q)))))))))) :
    mx_W m_X10_closest (d + 1) 29 [.ref 1, .int v1, .int v2, .int v3, .int v4, .int v5, .retAddr 0] [] M Q := by
  refine mx_iload 5 (mx_da t_X10_closest 17 rfl) rfl rfl ?_
  refine mx_aload_n 0 (mx_da t_X10_closest 18 rfl) rfl rfl rfl rfl ?_
  refine mx_getR t fs_RX10_71 rfl (tp_s T 1 rfl) ht0 (mx_da t_X10_closest 19 rfl) rfl ?_
  refine mx_getI fs_RX10_130 rfl (cat_s T ht) (mx_da t_X10_closest 20 rfl) rfl ?_
  refine mx_icmp_ge 80 (mx_da t_X10_closest 21 rfl) rfl rfl (fun g9 => ?_) (fun g9 => ?_)
  · have h := h.1 g9
    refine mx_iinc 4 (v := v4 + 1) [.ref 1, .int v1, .int v2, .int v3, .int (v4 + 1), .int v5, .retAddr 0] (mx_da t_X10_closest 43 rfl) rfl (by decide) rfl rfl rfl ?_
    refine mx_goto (n := 11) (mx_da t_X10_closest 44 rfl) rfl ?_
    exact mx_wkn [.ref 1, .int v1, .int v2, .int v3, .int (v4 + 1), .retAddr 0, .retAddr 0] ⟨Or.inr rfl, Or.inr rfl, Or.inr rfl, Or.inr rfl, Or.inr rfl, Or.inl rfl, Or.inr rfl, trivial⟩ h
  · have h := h.2 g9
    refine mx_aload_n 0 (mx_da t_X10_closest 22 rfl) rfl rfl rfl rfl ?_
    refine mx_iload 4 (mx_da t_X10_closest 23 rfl) rfl rfl ?_
    refine mx_iload 5 (mx_da t_X10_closest 24 rfl) rfl rfl ?_
    refine mx_callV yX10_couplesApart m_X10_couplesApart [.int v4, .int v5] mm_X10_couplesApart ml_RX10_290 im_X10_couplesApart se_X10_couplesApart (tp_s T 1 rfl) rfl rfl (Nat.le_of_ble_eq_true rfl) (mx_da t_X10_closest 25 rfl) rfl (Nat.le_of_ble_eq_true rfl) rfl ?_
    refine mx_mono h ?_
    intro o M1 ho
    obtain ⟨e1, e2, ho⟩ := ho
    obtain ⟨x2, rfl, h⟩ := ho
    refine ⟨e1, ?_⟩
    have T := tp_of e1 e2 T
    have ht0 := (congrFun (congrFun e2 1) 10).trans ht0
    clear e1 e2
    show mx_W m_X10_closest (d + 1) 49 [.ref 1, .int v1, .int v2, .int v3, .int v4, .int v5, .retAddr 0] [.int x2] M1 Q
    refine mx_istore 6 [.ref 1, .int v1, .int v2, .int v3, .int v4, .int v5, .int x2] (mx_da t_X10_closest 26 rfl) rfl (by decide) rfl ?_
    refine mx_iload_n 2 (mx_da t_X10_closest 27 rfl) rfl rfl rfl ?_
    refine mx_iconst (v := (-1)) (mx_da t_X10_closest 28 rfl) rfl rfl ?_
    refine mx_icmp_eq 62 (mx_da t_X10_closest 29 rfl) rfl rfl (fun g9 => ?_) (fun g9 => ?_)
    · have h := h.1 g9
      refine mx_iload 6 (mx_da t_X10_closest 33 rfl) rfl rfl ?_
      refine mx_istore_n 2 [.ref 1, .int v1, .int x2, .int v3, .int v4, .int v5, .int x2] (mx_da t_X10_closest 34 rfl) rfl rfl (by decide) rfl ?_
      refine mx_bipush (v := 10) (mx_da t_X10_closest 35 rfl) rfl rfl ?_
      refine mx_iload 4 (mx_da t_X10_closest 36 rfl) rfl rfl ?_
      refine mx_imul (mx_da t_X10_closest 37 rfl) rfl ?_
      refine mx_iload 5 (mx_da t_X10_closest 38 rfl) rfl rfl ?_
      refine mx_iadd (mx_da t_X10_closest 39 rfl) rfl ?_
      refine mx_istore_n 3 [.ref 1, .int v1, .int x2, .int ((10 * v4) + v5), .int v4, .int v5, .int x2] (mx_da t_X10_closest 40 rfl) rfl rfl (by decide) rfl ?_
      refine mx_iinc 5 (v := v5 + 1) [.ref 1, .int v1, .int x2, .int ((10 * v4) + v5), .int v4, .int (v5 + 1), .int x2] (mx_da t_X10_closest 41 rfl) rfl (by decide) rfl rfl rfl ?_
      refine mx_goto (n := 29) (mx_da t_X10_closest 42 rfl) rfl ?_
      exact mx_wkn [.ref 1, .int v1, .int x2, .int ((10 * v4) + v5), .int v4, .int (v5 + 1), .retAddr 0] ⟨Or.inr rfl, Or.inr rfl, Or.inr rfl, Or.inr rfl, Or.inr rfl, Or.inr rfl, Or.inl rfl, trivial⟩ h
    · have h := h.2 g9
      refine mx_iload 6 (mx_da t_X10_closest 30 rfl) rfl rfl ?_
      refine mx_iload_n 2 (mx_da t_X10_closest 31 rfl) rfl rfl rfl ?_
      refine mx_icmp_ge 74 (mx_da t_X10_closest 32 rfl) rfl rfl (fun g9 => ?_) (fun g9 => ?_)
      · have h := h.1 g9
        refine mx_iinc 5 (v := v5 + 1) [.ref 1, .int v1, .int v2, .int v3, .int v4, .int (v5 + 1), .int x2] (mx_da t_X10_closest 41 rfl) rfl (by decide) rfl rfl rfl ?_
        refine mx_goto (n := 29) (mx_da t_X10_closest 42 rfl) rfl ?_
        exact mx_wkn [.ref 1, .int v1, .int v2, .int v3, .int v4, .int (v5 + 1), .retAddr 0] ⟨Or.inr rfl, Or.inr rfl, Or.inr rfl, Or.inr rfl, Or.inr rfl, Or.inr rfl, Or.inl rfl, trivial⟩ h
      · have h := h.2 g9
        refine mx_iload 6 (mx_da t_X10_closest 33 rfl) rfl rfl ?_
        refine mx_istore_n 2 [.ref 1, .int v1, .int x2, .int v3, .int v4, .int v5, .int x2] (mx_da t_X10_closest 34 rfl) rfl rfl (by decide) rfl ?_
        refine mx_bipush (v := 10) (mx_da t_X10_closest 35 rfl) rfl rfl ?_
        refine mx_iload 4 (mx_da t_X10_closest 36 rfl) rfl rfl ?_
        refine mx_imul (mx_da t_X10_closest 37 rfl) rfl ?_
        refine mx_iload 5 (mx_da t_X10_closest 38 rfl) rfl rfl ?_
        refine mx_iadd (mx_da t_X10_closest 39 rfl) rfl ?_
        refine mx_istore_n 3 [.ref 1, .int v1, .int x2, .int ((10 * v4) + v5), .int v4, .int v5, .int x2] (mx_da t_X10_closest 40 rfl) rfl rfl (by decide) rfl ?_
        refine mx_iinc 5 (v := v5 + 1) [.ref 1, .int v1, .int x2, .int ((10 * v4) + v5), .int v4, .int (v5 + 1), .int x2] (mx_da t_X10_closest 41 rfl) rfl (by decide) rfl rfl rfl ?_
        refine mx_goto (n := 29) (mx_da t_X10_closest 42 rfl) rfl ?_
        exact mx_wkn [.ref 1, .int v1, .int x2, .int ((10 * v4) + v5), .int v4, .int (v5 + 1), .retAddr 0] ⟨Or.inr rfl, Or.inr rfl, Or.inr rfl, Or.inr rfl, Or.inr rfl, Or.inr rfl, Or.inl rfl, trivial⟩ h
set_option maxHeartbeats 1000000 in
theorem x_X10_votes_0 {d : Nat} {M : mx_M} {Q : mx_O → mx_M → Prop} (T : mx_Tp M) (t : Nat) (ht : mx_Cat t) (ht0 : mx_R M 1 10 = t) (v1 : Int32) (v2 : Int32)
    (h : (mx_W m_X10_needCard d 0 [.ref 1, .int v1] [] M (fun o M1 => mx_sh M1 = mx_sh M ∧ mx_R M1 = mx_R M ∧ ((o = .inl none ∧ (mx_W m_X10_needCard d 0 [.ref 1, .int v2] [] M1 (fun o M2 => mx_sh M2 = mx_sh M1 ∧ mx_R M2 = mx_R M1 ∧ ((o = .inl none ∧ (mx_W m_X10_lead d 0 [.ref 1, .int v1, .int v2] [] M2 (fun o M3 => mx_sh M3 = mx_sh M2 ∧ mx_R M3 = mx_R M2 ∧ (∃ x4 : Int32, o = .inl (some (.int x4)) ∧ Q (.inl (some (.int x4))) M3)))) ∨ ∃ E, o = .inr E ∧ Q (.inr E) M2)))) ∨ ∃ E, o = .inr E ∧ Q (.inr E) M1)))) :
    mx_W m_X10_votes (d + 1) 0 [.ref 1, .int v1, .int v2] [] M Q := by
  refine mx_aload_n 0 (mx_da t_X10_votes 0 rfl) rfl rfl rfl rfl ?_
  refine mx_iload_n 1 (mx_da t_X10_votes 1 rfl) rfl rfl rfl ?_
  refine mx_callV yX10_needCard m_X10_needCard [.int v1] mm_X10_needCard ml_RX10_160 im_X10_needCard se_X10_needCard (tp_s T 1 rfl) rfl rfl (Nat.le_of_ble_eq_true rfl) (mx_da t_X10_votes 2 rfl) rfl (Nat.le_of_ble_eq_true rfl) rfl ?_
  refine mx_mono h ?_
  intro o M1 ho
  obtain ⟨e1, e2, ho⟩ := ho
  rcases ho with ⟨rfl, h⟩ | ⟨E, rfl, h⟩
  rotate_left
  · exact ⟨e1, h⟩
  refine ⟨e1, ?_⟩
  have T := tp_of e1 e2 T
  have ht0 := (congrFun (congrFun e2 1) 10).trans ht0
  clear e1 e2
  show mx_W m_X10_votes (d + 1) 5 [.ref 1, .int v1, .int v2] [] M1 Q
  refine mx_aload_n 0 (mx_da t_X10_votes 3 rfl) rfl rfl rfl rfl ?_
  refine mx_iload_n 2 (mx_da t_X10_votes 4 rfl) rfl rfl rfl ?_
  refine mx_callV yX10_needCard m_X10_needCard [.int v2] mm_X10_needCard ml_RX10_160 im_X10_needCard se_X10_needCard (tp_s T 1 rfl) rfl rfl (Nat.le_of_ble_eq_true rfl) (mx_da t_X10_votes 5 rfl) rfl (Nat.le_of_ble_eq_true rfl) rfl ?_
  refine mx_mono h ?_
  intro o M2 ho
  obtain ⟨e1, e2, ho⟩ := ho
  rcases ho with ⟨rfl, h⟩ | ⟨E, rfl, h⟩
  rotate_left
  · exact ⟨e1, h⟩
  refine ⟨e1, ?_⟩
  have T := tp_of e1 e2 T
  have ht0 := (congrFun (congrFun e2 1) 10).trans ht0
  clear e1 e2
  show mx_W m_X10_votes (d + 1) 10 [.ref 1, .int v1, .int v2] [] M2 Q
  refine mx_aload_n 0 (mx_da t_X10_votes 6 rfl) rfl rfl rfl rfl ?_
  refine mx_iload_n 1 (mx_da t_X10_votes 7 rfl) rfl rfl rfl ?_
  refine mx_iload_n 2 (mx_da t_X10_votes 8 rfl) rfl rfl rfl ?_
  refine mx_callV yX10_lead m_X10_lead [.int v1, .int v2] mm_X10_lead ml_RX10_300 im_X10_lead se_X10_lead (tp_s T 1 rfl) rfl rfl (Nat.le_of_ble_eq_true rfl) (mx_da t_X10_votes 9 rfl) rfl (Nat.le_of_ble_eq_true rfl) rfl ?_
  refine mx_mono h ?_
  intro o M3 ho
  obtain ⟨e1, e2, ho⟩ := ho
  obtain ⟨x4, rfl, h⟩ := ho
  refine ⟨e1, ?_⟩
  have T := tp_of e1 e2 T
  have ht0 := (congrFun (congrFun e2 1) 10).trans ht0
  clear e1 e2
  show mx_W m_X10_votes (d + 1) 16 [.ref 1, .int v1, .int v2] [.int x4] M3 Q
  exact mx_iret rfl (mx_da t_X10_votes 10 rfl) h
set_option maxHeartbeats 1000000 in
theorem x_X10_lead_0 {d : Nat} {M : mx_M} {Q : mx_O → mx_M → Prop} (T : mx_Tp M) (t : Nat) (ht : mx_Cat t) (ht0 : mx_R M 1 10 = t) (v1 : Int32) (v2 : Int32)
    (h : ((¬ v1 = v2 → (mx_W m_X10_clerksFor d 0 [.ref 1, .int v1, .int v2, .retAddr 0, .retAddr 0] [] M (fun o M1 => mx_sh M1 = mx_sh M ∧ mx_R M1 = mx_R M ∧ (∃ x2 : Int32, o = .inl (some (.int x2)) ∧ Q (.inl (some (.int ((2 * x2) - (mx_I M1 t 13))))) M1)))) ∧ (v1 = v2 → Q (.inl (some (.int 0))) M))) :
    mx_W m_X10_lead (d + 1) 0 [.ref 1, .int v1, .int v2] [] M Q := by
  refine mx_iload_n 1 (mx_da t_X10_lead 0 rfl) rfl rfl rfl ?_
  refine mx_iload_n 2 (mx_da t_X10_lead 1 rfl) rfl rfl rfl ?_
  refine mx_icmp_ne 9 (mx_da t_X10_lead 2 rfl) rfl rfl (fun g9 => ?_) (fun g9 => ?_)
  · have h := h.1 g9
    refine mx_iconst (v := 2) (mx_da t_X10_lead 5 rfl) rfl rfl ?_
    refine mx_aload_n 0 (mx_da t_X10_lead 6 rfl) rfl rfl rfl rfl ?_
    refine mx_iload_n 1 (mx_da t_X10_lead 7 rfl) rfl rfl rfl ?_
    refine mx_iload_n 2 (mx_da t_X10_lead 8 rfl) rfl rfl rfl ?_
    refine mx_callV yX10_clerksFor m_X10_clerksFor [.int v1, .int v2] mm_X10_clerksFor ml_RX10_303 im_X10_clerksFor se_X10_clerksFor (tp_s T 1 rfl) rfl rfl (Nat.le_of_ble_eq_true rfl) (mx_da t_X10_lead 9 rfl) rfl (Nat.le_of_ble_eq_true rfl) rfl ?_
    refine mx_mono h ?_
    intro o M1 ho
    obtain ⟨e1, e2, ho⟩ := ho
    obtain ⟨x2, rfl, h⟩ := ho
    refine ⟨e1, ?_⟩
    have T := tp_of e1 e2 T
    have ht0 := (congrFun (congrFun e2 1) 10).trans ht0
    clear e1 e2
    show mx_W m_X10_lead (d + 1) 16 [.ref 1, .int v1, .int v2] [.int x2, .int 2] M1 Q
    refine mx_imul (mx_da t_X10_lead 10 rfl) rfl ?_
    refine mx_aload_n 0 (mx_da t_X10_lead 11 rfl) rfl rfl rfl rfl ?_
    refine mx_getR t fs_RX10_71 rfl (tp_s T 1 rfl) ht0 (mx_da t_X10_lead 12 rfl) rfl ?_
    refine mx_getI fs_RX10_130 rfl (cat_s T ht) (mx_da t_X10_lead 13 rfl) rfl ?_
    refine mx_isub (mx_da t_X10_lead 14 rfl) rfl ?_
    exact mx_iret rfl (mx_da t_X10_lead 15 rfl) h
  · have h := h.2 g9
    refine mx_iconst (v := 0) (mx_da t_X10_lead 3 rfl) rfl rfl ?_
    refine mx_goto (n := 25) (mx_da t_X10_lead 4 rfl) rfl ?_
    exact mx_iret rfl (mx_da t_X10_lead 15 rfl) h
set_option maxHeartbeats 1000000 in
theorem x_X10_clerksFor_0 {d : Nat} {M : mx_M} {Q : mx_O → mx_M → Prop} (T : mx_Tp M) (t : Nat) (ht : mx_Cat t) (ht0 : mx_R M 1 10 = t) (v1 : Int32) (v2 : Int32)
    (h : mx_W m_X10_clerksFor (d + 1) 5 [.ref 1, .int v1, .int v2, .int 0, .int 0] [] M Q) :
    mx_W m_X10_clerksFor (d + 1) 0 [.ref 1, .int v1, .int v2, .retAddr 0, .retAddr 0] [] M Q := by
  refine mx_iconst (v := 0) (mx_da t_X10_clerksFor 0 rfl) rfl rfl ?_
  refine mx_istore_n 3 [.ref 1, .int v1, .int v2, .int 0, .retAddr 0] (mx_da t_X10_clerksFor 1 rfl) rfl rfl (by decide) rfl ?_
  refine mx_iconst (v := 0) (mx_da t_X10_clerksFor 2 rfl) rfl rfl ?_
  refine mx_istore 4 [.ref 1, .int v1, .int v2, .int 0, .int 0] (mx_da t_X10_clerksFor 3 rfl) rfl (by decide) rfl ?_
  exact h
set_option maxHeartbeats 1000000 in
theorem x_X10_clerksFor_5 {d : Nat} {M : mx_M} {Q : mx_O → mx_M → Prop} (T : mx_Tp M) (t : Nat) (ht : mx_Cat t) (ht0 : mx_R M 1 10 = t) (v1 : Int32) (v2 : Int32) (v3 : Int32) (v4 : Int32)
    (h : (((mx_I M t 13) ≤ v4 → Q (.inl (some (.int v3))) M) ∧ (¬ (mx_I M t 13) ≤ v4 → (mx_W m_X3_isAhead d 0 [.ref 24, .int v4, .int v1, .int v2] [] M (fun o M1 => mx_sh M1 = mx_sh M ∧ mx_R M1 = mx_R M ∧ (∃ x2 : Bool, o = .inl (some (.int (mx_b x2))) ∧ ((x2 = false → mx_W m_X10_clerksFor (d + 1) 5 [.ref 1, .int v1, .int v2, .int v3, .int (v4 + 1)] [] M1 Q) ∧ (x2 = true → mx_W m_X10_clerksFor (d + 1) 5 [.ref 1, .int v1, .int v2, .int (v3 + 1), .int (v4 + 1)] [] M1 Q)))))))) :
    mx_W m_X10_clerksFor (d + 1) 5 [.ref 1, .int v1, .int v2, .int v3, .int v4] [] M Q := by
  refine mx_iload 4 (mx_da t_X10_clerksFor 4 rfl) rfl rfl ?_
  refine mx_aload_n 0 (mx_da t_X10_clerksFor 5 rfl) rfl rfl rfl rfl ?_
  refine mx_getR t fs_RX10_71 rfl (tp_s T 1 rfl) ht0 (mx_da t_X10_clerksFor 6 rfl) rfl ?_
  refine mx_getI fs_RX10_130 rfl (cat_s T ht) (mx_da t_X10_clerksFor 7 rfl) rfl ?_
  refine mx_icmp_ge 40 (mx_da t_X10_clerksFor 8 rfl) rfl rfl (fun g9 => ?_) (fun g9 => ?_)
  · have h := h.1 g9
    refine mx_iload_n 3 (mx_da t_X10_clerksFor 19 rfl) rfl rfl rfl ?_
    exact mx_iret rfl (mx_da t_X10_clerksFor 20 rfl) h
  · have h := h.2 g9
    refine mx_aload_n 0 (mx_da t_X10_clerksFor 9 rfl) rfl rfl rfl rfl ?_
    refine mx_getR 24 fs_RX10_30 rfl (tp_s T 1 rfl) (tp_r T 28 rfl) (mx_da t_X10_clerksFor 10 rfl) rfl ?_
    refine mx_iload 4 (mx_da t_X10_clerksFor 11 rfl) rfl rfl ?_
    refine mx_iload_n 1 (mx_da t_X10_clerksFor 12 rfl) rfl rfl rfl ?_
    refine mx_iload_n 2 (mx_da t_X10_clerksFor 13 rfl) rfl rfl rfl ?_
    refine mx_callV yX3_isAhead m_X3_isAhead [.int v4, .int v1, .int v2] mm_X3_isAhead ml_RX10_236 im_X3_isAhead se_X3_isAhead (tp_s T 24 rfl) rfl rfl (Nat.le_of_ble_eq_true rfl) (mx_da t_X10_clerksFor 14 rfl) rfl (Nat.le_of_ble_eq_true rfl) rfl ?_
    refine mx_mono h ?_
    intro o M1 ho
    obtain ⟨e1, e2, ho⟩ := ho
    obtain ⟨x2, rfl, h⟩ := ho
    refine ⟨e1, ?_⟩
    have T := tp_of e1 e2 T
    have ht0 := (congrFun (congrFun e2 1) 10).trans ht0
    clear e1 e2
    show mx_W m_X10_clerksFor (d + 1) 28 [.ref 1, .int v1, .int v2, .int v3, .int v4] [.int (mx_b x2)] M1 Q
    refine mx_if_eq 34 (mx_da t_X10_clerksFor 15 rfl) rfl rfl (fun g9 => ?_) (fun g9 => ?_)
    · have h := h.1 (mx_b0.mp g9)
      refine mx_iinc 4 (v := v4 + 1) [.ref 1, .int v1, .int v2, .int v3, .int (v4 + 1)] (mx_da t_X10_clerksFor 17 rfl) rfl (by decide) rfl rfl rfl ?_
      refine mx_goto (n := 5) (mx_da t_X10_clerksFor 18 rfl) rfl ?_
      exact h
    · have h := h.2 (mx_bn.mp g9)
      refine mx_iinc 3 (v := v3 + 1) [.ref 1, .int v1, .int v2, .int (v3 + 1), .int v4] (mx_da t_X10_clerksFor 16 rfl) rfl (by decide) rfl rfl rfl ?_
      refine mx_iinc 4 (v := v4 + 1) [.ref 1, .int v1, .int v2, .int (v3 + 1), .int (v4 + 1)] (mx_da t_X10_clerksFor 17 rfl) rfl (by decide) rfl rfl rfl ?_
      refine mx_goto (n := 5) (mx_da t_X10_clerksFor 18 rfl) rfl ?_
      exact h
set_option maxHeartbeats 1000000 in
theorem x_X10_ring_0 {d : Nat} {M : mx_M} {Q : mx_O → mx_M → Prop} (T : mx_Tp M) (t : Nat) (ht : mx_Cat t) (ht0 : mx_R M 1 10 = t)
    (h : mx_W m_X10_ring (d + 1) 2 [.ref 1, .int 0, .retAddr 0, .retAddr 0] [] M Q) :
    mx_W m_X10_ring (d + 1) 0 [.ref 1, .retAddr 0, .retAddr 0, .retAddr 0] [] M Q := by
  refine mx_iconst (v := 0) (mx_da t_X10_ring 0 rfl) rfl rfl ?_
  refine mx_istore_n 1 [.ref 1, .int 0, .retAddr 0, .retAddr 0] (mx_da t_X10_ring 1 rfl) rfl rfl (by decide) rfl ?_
  exact h
set_option maxHeartbeats 1000000 in
theorem x_X10_ring_2 {d : Nat} {M : mx_M} {Q : mx_O → mx_M → Prop} (T : mx_Tp M) (t : Nat) (ht : mx_Cat t) (ht0 : mx_R M 1 10 = t) (v1 : Int32)
    (h : (((mx_I M t 12) ≤ v1 → Q (.inl (some (.int (-1)))) M) ∧ (¬ (mx_I M t 12) ≤ v1 → mx_W m_X10_ring (d + 1) 17 [.ref 1, .int v1, .int (v1 + 1), .retAddr 0] [] M Q))) :
    mx_W m_X10_ring (d + 1) 2 [.ref 1, .int v1, .retAddr 0, .retAddr 0] [] M Q := by
  refine mx_iload_n 1 (mx_da t_X10_ring 2 rfl) rfl rfl rfl ?_
  refine mx_aload_n 0 (mx_da t_X10_ring 3 rfl) rfl rfl rfl rfl ?_
  refine mx_getR t fs_RX10_71 rfl (tp_s T 1 rfl) ht0 (mx_da t_X10_ring 4 rfl) rfl ?_
  refine mx_getI fs_RX10_148 rfl (cat_s T ht) (mx_da t_X10_ring 5 rfl) rfl ?_
  refine mx_icmp_ge 73 (mx_da t_X10_ring 6 rfl) rfl rfl (fun g9 => ?_) (fun g9 => ?_)
  · have h := h.1 g9
    refine mx_iconst (v := (-1)) (mx_da t_X10_ring 43 rfl) rfl rfl ?_
    exact mx_iret rfl (mx_da t_X10_ring 44 rfl) h
  · have h := h.2 g9
    refine mx_iload_n 1 (mx_da t_X10_ring 7 rfl) rfl rfl rfl ?_
    refine mx_iconst (v := 1) (mx_da t_X10_ring 8 rfl) rfl rfl ?_
    refine mx_iadd (mx_da t_X10_ring 9 rfl) rfl ?_
    refine mx_istore_n 2 [.ref 1, .int v1, .int (v1 + 1), .retAddr 0] (mx_da t_X10_ring 10 rfl) rfl rfl (by decide) rfl ?_
    exact h
set_option maxHeartbeats 1000000 in
theorem x_X10_ring_17 {d : Nat} {M : mx_M} {Q : mx_O → mx_M → Prop} (T : mx_Tp M) (t : Nat) (ht : mx_Cat t) (ht0 : mx_R M 1 10 = t) (v1 : Int32) (v2 : Int32)
    (h : (((mx_I M t 12) ≤ v2 → mx_W m_X10_ring (d + 1) 2 [.ref 1, .int (v1 + 1), .retAddr 0, .retAddr 0] [] M Q) ∧ (¬ (mx_I M t 12) ≤ v2 → (mx_W m_X10_lead d 0 [.ref 1, .int v1, .int v2] [] M (fun o M1 => mx_sh M1 = mx_sh M ∧ mx_R M1 = mx_R M ∧ (∃ x2 : Int32, o = .inl (some (.int x2)) ∧ ((x2 ≤ 0 → mx_W m_X10_ring (d + 1) 17 [.ref 1, .int v1, .int (v2 + 1), .retAddr 0] [] M1 Q) ∧ (¬ x2 ≤ 0 → (mx_W m_X10_thirdOfRing d 0 [.ref 1, .int v1, .int v2, .retAddr 0] [] M1 (fun o M3 => mx_sh M3 = mx_sh M1 ∧ mx_R M3 = mx_R M1 ∧ (∃ x4 : Int32, o = .inl (some (.int x4)) ∧ ((x4 = (-1 : Int32) → mx_W m_X10_ring (d + 1) 17 [.ref 1, .int v1, .int (v2 + 1), .retAddr 0] [] M3 Q) ∧ (¬ x4 = (-1 : Int32) → Q (.inl (some (.int (((100 * v1) + (10 * v2)) + x4)))) M3))))))))))))) :
    mx_W m_X10_ring (d + 1) 17 [.ref 1, .int v1, .int v2, .retAddr 0] [] M Q := by
  refine mx_iload_n 2 (mx_da t_X10_ring 11 rfl) rfl rfl rfl ?_
  refine mx_aload_n 0 (mx_da t_X10_ring 12 rfl) rfl rfl rfl rfl ?_
  refine mx_getR t fs_RX10_71 rfl (tp_s T 1 rfl) ht0 (mx_da t_X10_ring 13 rfl) rfl ?_
  refine mx_getI fs_RX10_148 rfl (cat_s T ht) (mx_da t_X10_ring 14 rfl) rfl ?_
  refine mx_icmp_ge 67 (mx_da t_X10_ring 15 rfl) rfl rfl (fun g9 => ?_) (fun g9 => ?_)
  · have h := h.1 g9
    refine mx_iinc 1 (v := v1 + 1) [.ref 1, .int (v1 + 1), .int v2, .retAddr 0] (mx_da t_X10_ring 41 rfl) rfl (by decide) rfl rfl rfl ?_
    refine mx_goto (n := 2) (mx_da t_X10_ring 42 rfl) rfl ?_
    exact mx_wkn [.ref 1, .int (v1 + 1), .retAddr 0, .retAddr 0] ⟨Or.inr rfl, Or.inr rfl, Or.inl rfl, Or.inr rfl, trivial⟩ h
  · have h := h.2 g9
    refine mx_aload_n 0 (mx_da t_X10_ring 16 rfl) rfl rfl rfl rfl ?_
    refine mx_iload_n 1 (mx_da t_X10_ring 17 rfl) rfl rfl rfl ?_
    refine mx_iload_n 2 (mx_da t_X10_ring 18 rfl) rfl rfl rfl ?_
    refine mx_callV yX10_lead m_X10_lead [.int v1, .int v2] mm_X10_lead ml_RX10_300 im_X10_lead se_X10_lead (tp_s T 1 rfl) rfl rfl (Nat.le_of_ble_eq_true rfl) (mx_da t_X10_ring 19 rfl) rfl (Nat.le_of_ble_eq_true rfl) rfl ?_
    refine mx_mono h ?_
    intro o M1 ho
    obtain ⟨e1, e2, ho⟩ := ho
    obtain ⟨x2, rfl, h⟩ := ho
    refine ⟨e1, ?_⟩
    have T := tp_of e1 e2 T
    have ht0 := (congrFun (congrFun e2 1) 10).trans ht0
    clear e1 e2
    show mx_W m_X10_ring (d + 1) 34 [.ref 1, .int v1, .int v2, .retAddr 0] [.int x2] M1 Q
    refine mx_if_le 61 (mx_da t_X10_ring 20 rfl) rfl rfl (fun g9 => ?_) (fun g9 => ?_)
    · have h := h.1 g9
      refine mx_iinc 2 (v := v2 + 1) [.ref 1, .int v1, .int (v2 + 1), .retAddr 0] (mx_da t_X10_ring 39 rfl) rfl (by decide) rfl rfl rfl ?_
      refine mx_goto (n := 17) (mx_da t_X10_ring 40 rfl) rfl ?_
      exact h
    · have h := h.2 g9
      refine mx_aload_n 0 (mx_da t_X10_ring 21 rfl) rfl rfl rfl rfl ?_
      refine mx_iload_n 1 (mx_da t_X10_ring 22 rfl) rfl rfl rfl ?_
      refine mx_iload_n 2 (mx_da t_X10_ring 23 rfl) rfl rfl rfl ?_
      refine mx_callV yX10_thirdOfRing m_X10_thirdOfRing [.int v1, .int v2] mm_X10_thirdOfRing ml_RX10_306 im_X10_thirdOfRing se_X10_thirdOfRing (tp_s T 1 rfl) rfl rfl (Nat.le_of_ble_eq_true rfl) (mx_da t_X10_ring 24 rfl) rfl (Nat.le_of_ble_eq_true rfl) rfl ?_
      refine mx_mono h ?_
      intro o M3 ho
      obtain ⟨e1, e2, ho⟩ := ho
      obtain ⟨x4, rfl, h⟩ := ho
      refine ⟨e1, ?_⟩
      have T := tp_of e1 e2 T
      have ht0 := (congrFun (congrFun e2 1) 10).trans ht0
      clear e1 e2
      show mx_W m_X10_ring (d + 1) 43 [.ref 1, .int v1, .int v2, .retAddr 0] [.int x4] M3 Q
      refine mx_istore_n 3 [.ref 1, .int v1, .int v2, .int x4] (mx_da t_X10_ring 25 rfl) rfl rfl (by decide) rfl ?_
      refine mx_iload_n 3 (mx_da t_X10_ring 26 rfl) rfl rfl rfl ?_
      refine mx_iconst (v := (-1)) (mx_da t_X10_ring 27 rfl) rfl rfl ?_
      refine mx_icmp_eq 61 (mx_da t_X10_ring 28 rfl) rfl rfl (fun g9 => ?_) (fun g9 => ?_)
      · have h := h.1 g9
        refine mx_iinc 2 (v := v2 + 1) [.ref 1, .int v1, .int (v2 + 1), .int x4] (mx_da t_X10_ring 39 rfl) rfl (by decide) rfl rfl rfl ?_
        refine mx_goto (n := 17) (mx_da t_X10_ring 40 rfl) rfl ?_
        exact mx_wkn [.ref 1, .int v1, .int (v2 + 1), .retAddr 0] ⟨Or.inr rfl, Or.inr rfl, Or.inr rfl, Or.inl rfl, trivial⟩ h
      · have h := h.2 g9
        refine mx_bipush (v := 100) (mx_da t_X10_ring 29 rfl) rfl rfl ?_
        refine mx_iload_n 1 (mx_da t_X10_ring 30 rfl) rfl rfl rfl ?_
        refine mx_imul (mx_da t_X10_ring 31 rfl) rfl ?_
        refine mx_bipush (v := 10) (mx_da t_X10_ring 32 rfl) rfl rfl ?_
        refine mx_iload_n 2 (mx_da t_X10_ring 33 rfl) rfl rfl rfl ?_
        refine mx_imul (mx_da t_X10_ring 34 rfl) rfl ?_
        refine mx_iadd (mx_da t_X10_ring 35 rfl) rfl ?_
        refine mx_iload_n 3 (mx_da t_X10_ring 36 rfl) rfl rfl rfl ?_
        refine mx_iadd (mx_da t_X10_ring 37 rfl) rfl ?_
        exact mx_iret rfl (mx_da t_X10_ring 38 rfl) h
set_option maxHeartbeats 1000000 in
theorem x_X10_thirdOfRing_0 {d : Nat} {M : mx_M} {Q : mx_O → mx_M → Prop} (T : mx_Tp M) (t : Nat) (ht : mx_Cat t) (ht0 : mx_R M 1 10 = t) (v1 : Int32) (v2 : Int32)
    (h : mx_W m_X10_thirdOfRing (d + 1) 4 [.ref 1, .int v1, .int v2, .int (v1 + 1)] [] M Q) :
    mx_W m_X10_thirdOfRing (d + 1) 0 [.ref 1, .int v1, .int v2, .retAddr 0] [] M Q := by
  refine mx_iload_n 1 (mx_da t_X10_thirdOfRing 0 rfl) rfl rfl rfl ?_
  refine mx_iconst (v := 1) (mx_da t_X10_thirdOfRing 1 rfl) rfl rfl ?_
  refine mx_iadd (mx_da t_X10_thirdOfRing 2 rfl) rfl ?_
  refine mx_istore_n 3 [.ref 1, .int v1, .int v2, .int (v1 + 1)] (mx_da t_X10_thirdOfRing 3 rfl) rfl rfl (by decide) rfl ?_
  exact h
set_option maxHeartbeats 1000000 in
theorem x_X10_thirdOfRing_4 {d : Nat} {M : mx_M} {Q : mx_O → mx_M → Prop} (T : mx_Tp M) (t : Nat) (ht : mx_Cat t) (ht0 : mx_R M 1 10 = t) (v1 : Int32) (v2 : Int32) (v3 : Int32)
    (h : (((mx_I M t 12) ≤ v3 → Q (.inl (some (.int (-1)))) M) ∧ (¬ (mx_I M t 12) ≤ v3 → (mx_W m_X10_lead d 0 [.ref 1, .int v2, .int v3] [] M (fun o M1 => mx_sh M1 = mx_sh M ∧ mx_R M1 = mx_R M ∧ (∃ x2 : Int32, o = .inl (some (.int x2)) ∧ ((x2 ≤ 0 → mx_W m_X10_thirdOfRing (d + 1) 4 [.ref 1, .int v1, .int v2, .int (v3 + 1)] [] M1 Q) ∧ (¬ x2 ≤ 0 → (mx_W m_X10_lead d 0 [.ref 1, .int v3, .int v1] [] M1 (fun o M3 => mx_sh M3 = mx_sh M1 ∧ mx_R M3 = mx_R M1 ∧ (∃ x4 : Int32, o = .inl (some (.int x4)) ∧ ((x4 ≤ 0 → mx_W m_X10_thirdOfRing (d + 1) 4 [.ref 1, .int v1, .int v2, .int (v3 + 1)] [] M3 Q) ∧ (¬ x4 ≤ 0 → Q (.inl (some (.int v3))) M3))))))))))))) :
    mx_W m_X10_thirdOfRing (d + 1) 4 [.ref 1, .int v1, .int v2, .int v3] [] M Q := by
  refine mx_iload_n 3 (mx_da t_X10_thirdOfRing 4 rfl) rfl rfl rfl ?_
  refine mx_aload_n 0 (mx_da t_X10_thirdOfRing 5 rfl) rfl rfl rfl rfl ?_
  refine mx_getR t fs_RX10_71 rfl (tp_s T 1 rfl) ht0 (mx_da t_X10_thirdOfRing 6 rfl) rfl ?_
  refine mx_getI fs_RX10_148 rfl (cat_s T ht) (mx_da t_X10_thirdOfRing 7 rfl) rfl ?_
  refine mx_icmp_ge 41 (mx_da t_X10_thirdOfRing 8 rfl) rfl rfl (fun g9 => ?_) (fun g9 => ?_)
  · have h := h.1 g9
    refine mx_iconst (v := (-1)) (mx_da t_X10_thirdOfRing 23 rfl) rfl rfl ?_
    exact mx_iret rfl (mx_da t_X10_thirdOfRing 24 rfl) h
  · have h := h.2 g9
    refine mx_aload_n 0 (mx_da t_X10_thirdOfRing 9 rfl) rfl rfl rfl rfl ?_
    refine mx_iload_n 2 (mx_da t_X10_thirdOfRing 10 rfl) rfl rfl rfl ?_
    refine mx_iload_n 3 (mx_da t_X10_thirdOfRing 11 rfl) rfl rfl rfl ?_
    refine mx_callV yX10_lead m_X10_lead [.int v2, .int v3] mm_X10_lead ml_RX10_300 im_X10_lead se_X10_lead (tp_s T 1 rfl) rfl rfl (Nat.le_of_ble_eq_true rfl) (mx_da t_X10_thirdOfRing 12 rfl) rfl (Nat.le_of_ble_eq_true rfl) rfl ?_
    refine mx_mono h ?_
    intro o M1 ho
    obtain ⟨e1, e2, ho⟩ := ho
    obtain ⟨x2, rfl, h⟩ := ho
    refine ⟨e1, ?_⟩
    have T := tp_of e1 e2 T
    have ht0 := (congrFun (congrFun e2 1) 10).trans ht0
    clear e1 e2
    show mx_W m_X10_thirdOfRing (d + 1) 21 [.ref 1, .int v1, .int v2, .int v3] [.int x2] M1 Q
    refine mx_if_le 35 (mx_da t_X10_thirdOfRing 13 rfl) rfl rfl (fun g9 => ?_) (fun g9 => ?_)
    · have h := h.1 g9
      refine mx_iinc 3 (v := v3 + 1) [.ref 1, .int v1, .int v2, .int (v3 + 1)] (mx_da t_X10_thirdOfRing 21 rfl) rfl (by decide) rfl rfl rfl ?_
      refine mx_goto (n := 4) (mx_da t_X10_thirdOfRing 22 rfl) rfl ?_
      exact h
    · have h := h.2 g9
      refine mx_aload_n 0 (mx_da t_X10_thirdOfRing 14 rfl) rfl rfl rfl rfl ?_
      refine mx_iload_n 3 (mx_da t_X10_thirdOfRing 15 rfl) rfl rfl rfl ?_
      refine mx_iload_n 1 (mx_da t_X10_thirdOfRing 16 rfl) rfl rfl rfl ?_
      refine mx_callV yX10_lead m_X10_lead [.int v3, .int v1] mm_X10_lead ml_RX10_300 im_X10_lead se_X10_lead (tp_s T 1 rfl) rfl rfl (Nat.le_of_ble_eq_true rfl) (mx_da t_X10_thirdOfRing 17 rfl) rfl (Nat.le_of_ble_eq_true rfl) rfl ?_
      refine mx_mono h ?_
      intro o M3 ho
      obtain ⟨e1, e2, ho⟩ := ho
      obtain ⟨x4, rfl, h⟩ := ho
      refine ⟨e1, ?_⟩
      have T := tp_of e1 e2 T
      have ht0 := (congrFun (congrFun e2 1) 10).trans ht0
      clear e1 e2
      show mx_W m_X10_thirdOfRing (d + 1) 30 [.ref 1, .int v1, .int v2, .int v3] [.int x4] M3 Q
      refine mx_if_le 35 (mx_da t_X10_thirdOfRing 18 rfl) rfl rfl (fun g9 => ?_) (fun g9 => ?_)
      · have h := h.1 g9
        refine mx_iinc 3 (v := v3 + 1) [.ref 1, .int v1, .int v2, .int (v3 + 1)] (mx_da t_X10_thirdOfRing 21 rfl) rfl (by decide) rfl rfl rfl ?_
        refine mx_goto (n := 4) (mx_da t_X10_thirdOfRing 22 rfl) rfl ?_
        exact h
      · have h := h.2 g9
        refine mx_iload_n 3 (mx_da t_X10_thirdOfRing 19 rfl) rfl rfl rfl ?_
        exact mx_iret rfl (mx_da t_X10_thirdOfRing 20 rfl) h
set_option maxHeartbeats 1000000 in
theorem x_X10_head_0 {d : Nat} {M : mx_M} {Q : mx_O → mx_M → Prop} (T : mx_Tp M) (t : Nat) (ht : mx_Cat t) (ht0 : mx_R M 1 10 = t)
    (h : mx_W m_X10_head (d + 1) 2 [.ref 1, .int 0] [] M Q) :
    mx_W m_X10_head (d + 1) 0 [.ref 1, .retAddr 0] [] M Q := by
  refine mx_iconst (v := 0) (mx_da t_X10_head 0 rfl) rfl rfl ?_
  refine mx_istore_n 1 [.ref 1, .int 0] (mx_da t_X10_head 1 rfl) rfl rfl (by decide) rfl ?_
  exact h
set_option maxHeartbeats 1000000 in
theorem x_X10_head_2 {d : Nat} {M : mx_M} {Q : mx_O → mx_M → Prop} (T : mx_Tp M) (t : Nat) (ht : mx_Cat t) (ht0 : mx_R M 1 10 = t) (v1 : Int32)
    (h : (((mx_I M t 12) ≤ v1 → Q (.inl (some (.int (-1)))) M) ∧ (¬ (mx_I M t 12) ≤ v1 → (mx_W m_X10_leadsAll d 0 [.ref 1, .int v1, .retAddr 0] [] M (fun o M1 => mx_sh M1 = mx_sh M ∧ mx_R M1 = mx_R M ∧ (∃ x2 : Bool, o = .inl (some (.int (mx_b x2))) ∧ ((x2 = false → mx_W m_X10_head (d + 1) 2 [.ref 1, .int (v1 + 1)] [] M1 Q) ∧ (x2 = true → Q (.inl (some (.int v1))) M1)))))))) :
    mx_W m_X10_head (d + 1) 2 [.ref 1, .int v1] [] M Q := by
  refine mx_iload_n 1 (mx_da t_X10_head 2 rfl) rfl rfl rfl ?_
  refine mx_aload_n 0 (mx_da t_X10_head 3 rfl) rfl rfl rfl rfl ?_
  refine mx_getR t fs_RX10_71 rfl (tp_s T 1 rfl) ht0 (mx_da t_X10_head 4 rfl) rfl ?_
  refine mx_getI fs_RX10_148 rfl (cat_s T ht) (mx_da t_X10_head 5 rfl) rfl ?_
  refine mx_icmp_ge 29 (mx_da t_X10_head 6 rfl) rfl rfl (fun g9 => ?_) (fun g9 => ?_)
  · have h := h.1 g9
    refine mx_iconst (v := (-1)) (mx_da t_X10_head 15 rfl) rfl rfl ?_
    exact mx_iret rfl (mx_da t_X10_head 16 rfl) h
  · have h := h.2 g9
    refine mx_aload_n 0 (mx_da t_X10_head 7 rfl) rfl rfl rfl rfl ?_
    refine mx_iload_n 1 (mx_da t_X10_head 8 rfl) rfl rfl rfl ?_
    refine mx_callV yX10_leadsAll m_X10_leadsAll [.int v1] mm_X10_leadsAll ml_RX10_309 im_X10_leadsAll se_X10_leadsAll (tp_s T 1 rfl) rfl rfl (Nat.le_of_ble_eq_true rfl) (mx_da t_X10_head 9 rfl) rfl (Nat.le_of_ble_eq_true rfl) rfl ?_
    refine mx_mono h ?_
    intro o M1 ho
    obtain ⟨e1, e2, ho⟩ := ho
    obtain ⟨x2, rfl, h⟩ := ho
    refine ⟨e1, ?_⟩
    have T := tp_of e1 e2 T
    have ht0 := (congrFun (congrFun e2 1) 10).trans ht0
    clear e1 e2
    show mx_W m_X10_head (d + 1) 18 [.ref 1, .int v1] [.int (mx_b x2)] M1 Q
    refine mx_if_eq 23 (mx_da t_X10_head 10 rfl) rfl rfl (fun g9 => ?_) (fun g9 => ?_)
    · have h := h.1 (mx_b0.mp g9)
      refine mx_iinc 1 (v := v1 + 1) [.ref 1, .int (v1 + 1)] (mx_da t_X10_head 13 rfl) rfl (by decide) rfl rfl rfl ?_
      refine mx_goto (n := 2) (mx_da t_X10_head 14 rfl) rfl ?_
      exact h
    · have h := h.2 (mx_bn.mp g9)
      refine mx_iload_n 1 (mx_da t_X10_head 11 rfl) rfl rfl rfl ?_
      exact mx_iret rfl (mx_da t_X10_head 12 rfl) h
set_option maxHeartbeats 1000000 in
theorem x_X10_leadsAll_0 {d : Nat} {M : mx_M} {Q : mx_O → mx_M → Prop} (T : mx_Tp M) (t : Nat) (ht : mx_Cat t) (ht0 : mx_R M 1 10 = t) (v1 : Int32)
    (h : mx_W m_X10_leadsAll (d + 1) 2 [.ref 1, .int v1, .int 0] [] M Q) :
    mx_W m_X10_leadsAll (d + 1) 0 [.ref 1, .int v1, .retAddr 0] [] M Q := by
  refine mx_iconst (v := 0) (mx_da t_X10_leadsAll 0 rfl) rfl rfl ?_
  refine mx_istore_n 2 [.ref 1, .int v1, .int 0] (mx_da t_X10_leadsAll 1 rfl) rfl rfl (by decide) rfl ?_
  exact h
set_option maxHeartbeats 1000000 in
theorem x_X10_leadsAll_2 {d : Nat} {M : mx_M} {Q : mx_O → mx_M → Prop} (T : mx_Tp M) (t : Nat) (ht : mx_Cat t) (ht0 : mx_R M 1 10 = t) (v1 : Int32) (v2 : Int32)
    (h : (((mx_I M t 12) ≤ v2 → Q (.inl (some (.int (mx_b true)))) M) ∧ (¬ (mx_I M t 12) ≤ v2 → ((v2 = v1 → mx_W m_X10_leadsAll (d + 1) 2 [.ref 1, .int v1, .int (v2 + 1)] [] M Q) ∧ (¬ v2 = v1 → (mx_W m_X10_lead d 0 [.ref 1, .int v1, .int v2] [] M (fun o M1 => mx_sh M1 = mx_sh M ∧ mx_R M1 = mx_R M ∧ (∃ x2 : Int32, o = .inl (some (.int x2)) ∧ ((0 < x2 → mx_W m_X10_leadsAll (d + 1) 2 [.ref 1, .int v1, .int (v2 + 1)] [] M1 Q) ∧ (¬ 0 < x2 → Q (.inl (some (.int (mx_b false)))) M1)))))))))) :
    mx_W m_X10_leadsAll (d + 1) 2 [.ref 1, .int v1, .int v2] [] M Q := by
  refine mx_iload_n 2 (mx_da t_X10_leadsAll 2 rfl) rfl rfl rfl ?_
  refine mx_aload_n 0 (mx_da t_X10_leadsAll 3 rfl) rfl rfl rfl rfl ?_
  refine mx_getR t fs_RX10_71 rfl (tp_s T 1 rfl) ht0 (mx_da t_X10_leadsAll 4 rfl) rfl ?_
  refine mx_getI fs_RX10_148 rfl (cat_s T ht) (mx_da t_X10_leadsAll 5 rfl) rfl ?_
  refine mx_icmp_ge 35 (mx_da t_X10_leadsAll 6 rfl) rfl rfl (fun g9 => ?_) (fun g9 => ?_)
  · have h := h.1 g9
    refine mx_iconst (v := 1) (mx_da t_X10_leadsAll 19 rfl) rfl rfl ?_
    exact mx_zret rfl rfl (mx_da t_X10_leadsAll 20 rfl) h
  · have h := h.2 g9
    refine mx_iload_n 2 (mx_da t_X10_leadsAll 7 rfl) rfl rfl rfl ?_
    refine mx_iload_n 1 (mx_da t_X10_leadsAll 8 rfl) rfl rfl rfl ?_
    refine mx_icmp_eq 29 (mx_da t_X10_leadsAll 9 rfl) rfl rfl (fun g9 => ?_) (fun g9 => ?_)
    · have h := h.1 g9
      refine mx_iinc 2 (v := v2 + 1) [.ref 1, .int v1, .int (v2 + 1)] (mx_da t_X10_leadsAll 17 rfl) rfl (by decide) rfl rfl rfl ?_
      refine mx_goto (n := 2) (mx_da t_X10_leadsAll 18 rfl) rfl ?_
      exact h
    · have h := h.2 g9
      refine mx_aload_n 0 (mx_da t_X10_leadsAll 10 rfl) rfl rfl rfl rfl ?_
      refine mx_iload_n 1 (mx_da t_X10_leadsAll 11 rfl) rfl rfl rfl ?_
      refine mx_iload_n 2 (mx_da t_X10_leadsAll 12 rfl) rfl rfl rfl ?_
      refine mx_callV yX10_lead m_X10_lead [.int v1, .int v2] mm_X10_lead ml_RX10_300 im_X10_lead se_X10_lead (tp_s T 1 rfl) rfl rfl (Nat.le_of_ble_eq_true rfl) (mx_da t_X10_leadsAll 13 rfl) rfl (Nat.le_of_ble_eq_true rfl) rfl ?_
      refine mx_mono h ?_
      intro o M1 ho
      obtain ⟨e1, e2, ho⟩ := ho
      obtain ⟨x2, rfl, h⟩ := ho
      refine ⟨e1, ?_⟩
      have T := tp_of e1 e2 T
      have ht0 := (congrFun (congrFun e2 1) 10).trans ht0
      clear e1 e2
      show mx_W m_X10_leadsAll (d + 1) 24 [.ref 1, .int v1, .int v2] [.int x2] M1 Q
      refine mx_if_gt 29 (mx_da t_X10_leadsAll 14 rfl) rfl rfl (fun g9 => ?_) (fun g9 => ?_)
      · have h := h.1 g9
        refine mx_iinc 2 (v := v2 + 1) [.ref 1, .int v1, .int (v2 + 1)] (mx_da t_X10_leadsAll 17 rfl) rfl (by decide) rfl rfl rfl ?_
        refine mx_goto (n := 2) (mx_da t_X10_leadsAll 18 rfl) rfl ?_
        exact h
      · have h := h.2 g9
        refine mx_iconst (v := 0) (mx_da t_X10_leadsAll 15 rfl) rfl rfl ?_
        exact mx_zret rfl rfl (mx_da t_X10_leadsAll 16 rfl) h
set_option maxHeartbeats 1000000 in
theorem x_X10_compromise_0 {d : Nat} {M : mx_M} {Q : mx_O → mx_M → Prop} (T : mx_Tp M) (t : Nat) (ht : mx_Cat t) (ht0 : mx_R M 1 10 = t) (v1 : Int32)
    (h : ((v1 < (-1 : Int32) → (1 ≤ (mx_rm M).1 ∧ 6 ≤ (mx_rm M).2 ∧ Q (.inr "java/util/NoSuchElementException") (mx_thM M))) ∧ (¬ v1 < (-1 : Int32) → ((v1 < (mx_I M t 12) → ((¬ (mx_I M 39 4) = 0 → ((¬ v1 = (-1 : Int32) → (vp_in v1 10 ∧ Q (.inl (some (.int (mx_I M 42 v1.toNatClampNeg)))) M)) ∧ (v1 = (-1 : Int32) → Q (.inl (some (.int (mx_I M 39 3)))) M))) ∧ ((mx_I M 39 4) = 0 → (mx_W m_X10_weighCompromise d 0 [.ref 1, .retAddr 0, .retAddr 0] [] M (fun o M1 => mx_sh M1 = mx_sh M ∧ mx_R M1 = mx_R M ∧ (o = .inl none ∧ ((¬ v1 = (-1 : Int32) → (vp_in v1 10 ∧ Q (.inl (some (.int (mx_I M1 42 v1.toNatClampNeg)))) M1)) ∧ (v1 = (-1 : Int32) → Q (.inl (some (.int (mx_I M1 39 3)))) M1)))))))) ∧ (¬ v1 < (mx_I M t 12) → (1 ≤ (mx_rm M).1 ∧ 6 ≤ (mx_rm M).2 ∧ Q (.inr "java/util/NoSuchElementException") (mx_thM M))))))) :
    mx_W m_X10_compromise (d + 1) 0 [.ref 1, .int v1] [] M Q := by
  refine mx_iload_n 1 (mx_da t_X10_compromise 0 rfl) rfl rfl rfl ?_
  refine mx_iconst (v := (-1)) (mx_da t_X10_compromise 1 rfl) rfl rfl ?_
  refine mx_icmp_lt 16 (mx_da t_X10_compromise 2 rfl) rfl rfl (fun g9 => ?_) (fun g9 => ?_)
  · have h := h.1 g9
    exact mx_thrN 30 155 312 3 rfl (by decide) rfl cl_155 in_NSE (mx_da t_X10_compromise 8 rfl) (mx_da t_X10_compromise 9 rfl) (Or.inr ⟨rfl, (mx_da t_X10_compromise 10 rfl)⟩) (mx_da t_X10_compromise 11 rfl) (mx_da t_X10_compromise 12 rfl) rfl (by decide) h.1 h.2.1 h.2.2
  · have h := h.2 g9
    refine mx_iload_n 1 (mx_da t_X10_compromise 3 rfl) rfl rfl rfl ?_
    refine mx_aload_n 0 (mx_da t_X10_compromise 4 rfl) rfl rfl rfl rfl ?_
    refine mx_getR t fs_RX10_71 rfl (tp_s T 1 rfl) ht0 (mx_da t_X10_compromise 5 rfl) rfl ?_
    refine mx_getI fs_RX10_148 rfl (cat_s T ht) (mx_da t_X10_compromise 6 rfl) rfl ?_
    refine mx_icmp_lt 27 (mx_da t_X10_compromise 7 rfl) rfl rfl (fun g9 => ?_) (fun g9 => ?_)
    · have h := h.1 g9
      refine mx_aload_n 0 (mx_da t_X10_compromise 13 rfl) rfl rfl rfl rfl ?_
      refine mx_getR 39 fs_RX10_57 rfl (tp_s T 1 rfl) (tp_r T 40 rfl) (mx_da t_X10_compromise 14 rfl) rfl ?_
      refine mx_getI fs_RX10_141 rfl (tp_s T 39 rfl) (mx_da t_X10_compromise 15 rfl) rfl ?_
      refine mx_if_ne 41 (mx_da t_X10_compromise 16 rfl) rfl rfl (fun g9 => ?_) (fun g9 => ?_)
      · have h := h.1 g9
        refine mx_iload_n 1 (mx_da t_X10_compromise 19 rfl) rfl rfl rfl ?_
        refine mx_iconst (v := (-1)) (mx_da t_X10_compromise 20 rfl) rfl rfl ?_
        refine mx_icmp_ne 56 (mx_da t_X10_compromise 21 rfl) rfl rfl (fun g9 => ?_) (fun g9 => ?_)
        · have h := h.1 g9
          refine mx_aload_n 0 (mx_da t_X10_compromise 26 rfl) rfl rfl rfl rfl ?_
          refine mx_getR 39 fs_RX10_57 rfl (tp_s T 1 rfl) (tp_r T 40 rfl) (mx_da t_X10_compromise 27 rfl) rfl ?_
          refine mx_getR 42 fs_RX10_320 rfl (tp_s T 39 rfl) (tp_r T 39 rfl) (mx_da t_X10_compromise 28 rfl) rfl ?_
          refine mx_iload_n 1 (mx_da t_X10_compromise 29 rfl) rfl rfl rfl ?_
          refine mx_iald (tp_s T 42 rfl) h.1 (mx_da t_X10_compromise 30 rfl) rfl ?_
          have h := h.2
          exact mx_iret rfl (mx_da t_X10_compromise 31 rfl) h
        · have h := h.2 g9
          refine mx_aload_n 0 (mx_da t_X10_compromise 22 rfl) rfl rfl rfl rfl ?_
          refine mx_getR 39 fs_RX10_57 rfl (tp_s T 1 rfl) (tp_r T 40 rfl) (mx_da t_X10_compromise 23 rfl) rfl ?_
          refine mx_getI fs_RX10_317 rfl (tp_s T 39 rfl) (mx_da t_X10_compromise 24 rfl) rfl ?_
          refine mx_goto (n := 65) (mx_da t_X10_compromise 25 rfl) rfl ?_
          exact mx_iret rfl (mx_da t_X10_compromise 31 rfl) h
      · have h := h.2 g9
        refine mx_aload_n 0 (mx_da t_X10_compromise 17 rfl) rfl rfl rfl rfl ?_
        refine mx_callV yX10_weighCompromise m_X10_weighCompromise [] mm_X10_weighCompromise ml_RX10_314 im_X10_weighCompromise se_X10_weighCompromise (tp_s T 1 rfl) rfl rfl (Nat.le_of_ble_eq_true rfl) (mx_da t_X10_compromise 18 rfl) rfl (Nat.le_of_ble_eq_true rfl) rfl ?_
        refine mx_mono h ?_
        intro o M1 ho
        obtain ⟨e1, e2, ho⟩ := ho
        obtain ⟨rfl, h⟩ := ho
        refine ⟨e1, ?_⟩
        have T := tp_of e1 e2 T
        have ht0 := (congrFun (congrFun e2 1) 10).trans ht0
        clear e1 e2
        show mx_W m_X10_compromise (d + 1) 41 [.ref 1, .int v1] [] M1 Q
        refine mx_iload_n 1 (mx_da t_X10_compromise 19 rfl) rfl rfl rfl ?_
        refine mx_iconst (v := (-1)) (mx_da t_X10_compromise 20 rfl) rfl rfl ?_
        refine mx_icmp_ne 56 (mx_da t_X10_compromise 21 rfl) rfl rfl (fun g9 => ?_) (fun g9 => ?_)
        · have h := h.1 g9
          refine mx_aload_n 0 (mx_da t_X10_compromise 26 rfl) rfl rfl rfl rfl ?_
          refine mx_getR 39 fs_RX10_57 rfl (tp_s T 1 rfl) (tp_r T 40 rfl) (mx_da t_X10_compromise 27 rfl) rfl ?_
          refine mx_getR 42 fs_RX10_320 rfl (tp_s T 39 rfl) (tp_r T 39 rfl) (mx_da t_X10_compromise 28 rfl) rfl ?_
          refine mx_iload_n 1 (mx_da t_X10_compromise 29 rfl) rfl rfl rfl ?_
          refine mx_iald (tp_s T 42 rfl) h.1 (mx_da t_X10_compromise 30 rfl) rfl ?_
          have h := h.2
          exact mx_iret rfl (mx_da t_X10_compromise 31 rfl) h
        · have h := h.2 g9
          refine mx_aload_n 0 (mx_da t_X10_compromise 22 rfl) rfl rfl rfl rfl ?_
          refine mx_getR 39 fs_RX10_57 rfl (tp_s T 1 rfl) (tp_r T 40 rfl) (mx_da t_X10_compromise 23 rfl) rfl ?_
          refine mx_getI fs_RX10_317 rfl (tp_s T 39 rfl) (mx_da t_X10_compromise 24 rfl) rfl ?_
          refine mx_goto (n := 65) (mx_da t_X10_compromise 25 rfl) rfl ?_
          exact mx_iret rfl (mx_da t_X10_compromise 31 rfl) h
    · have h := h.2 g9
      exact mx_thrN 30 155 312 3 rfl (by decide) rfl cl_155 in_NSE (mx_da t_X10_compromise 8 rfl) (mx_da t_X10_compromise 9 rfl) (Or.inr ⟨rfl, (mx_da t_X10_compromise 10 rfl)⟩) (mx_da t_X10_compromise 11 rfl) (mx_da t_X10_compromise 12 rfl) rfl (by decide) h.1 h.2.1 h.2.2
set_option maxHeartbeats 1000000 in
theorem x_X10_weighCompromise_0 {d : Nat} {M : mx_M} {Q : mx_O → mx_M → Prop} (T : mx_Tp M) (t : Nat) (ht : mx_Cat t) (ht0 : mx_R M 1 10 = t)
    (h : mx_W m_X10_weighCompromise (d + 1) 2 [.ref 1, .int 0, .retAddr 0] [] M Q) :
    mx_W m_X10_weighCompromise (d + 1) 0 [.ref 1, .retAddr 0, .retAddr 0] [] M Q := by
  refine mx_iconst (v := 0) (mx_da t_X10_weighCompromise 0 rfl) rfl rfl ?_
  refine mx_istore_n 1 [.ref 1, .int 0, .retAddr 0] (mx_da t_X10_weighCompromise 1 rfl) rfl rfl (by decide) rfl ?_
  exact h
set_option maxHeartbeats 1000000 in
theorem x_X10_weighCompromise_2 {d : Nat} {M : mx_M} {Q : mx_O → mx_M → Prop} (T : mx_Tp M) (t : Nat) (ht : mx_Cat t) (ht0 : mx_R M 1 10 = t) (v1 : Int32)
    (h : (((mx_I M t 12) ≤ v1 → (mx_W m_X2_settle d 0 [.ref 39, .int (mx_I M t 12), .retAddr 0, .retAddr 0, .retAddr 0] [] M (fun o M1 => mx_sh M1 = mx_sh M ∧ mx_R M1 = mx_R M ∧ (o = .inl none ∧ Q (.inl none) M1)))) ∧ (¬ (mx_I M t 12) ≤ v1 → mx_W m_X10_weighCompromise (d + 1) 15 [.ref 1, .int v1, .int 0] [] M Q))) :
    mx_W m_X10_weighCompromise (d + 1) 2 [.ref 1, .int v1, .retAddr 0] [] M Q := by
  refine mx_iload_n 1 (mx_da t_X10_weighCompromise 2 rfl) rfl rfl rfl ?_
  refine mx_aload_n 0 (mx_da t_X10_weighCompromise 3 rfl) rfl rfl rfl rfl ?_
  refine mx_getR t fs_RX10_71 rfl (tp_s T 1 rfl) ht0 (mx_da t_X10_weighCompromise 4 rfl) rfl ?_
  refine mx_getI fs_RX10_148 rfl (cat_s T ht) (mx_da t_X10_weighCompromise 5 rfl) rfl ?_
  refine mx_icmp_ge 53 (mx_da t_X10_weighCompromise 6 rfl) rfl rfl (fun g9 => ?_) (fun g9 => ?_)
  · have h := h.1 g9
    refine mx_aload_n 0 (mx_da t_X10_weighCompromise 27 rfl) rfl rfl rfl rfl ?_
    refine mx_getR 39 fs_RX10_57 rfl (tp_s T 1 rfl) (tp_r T 40 rfl) (mx_da t_X10_weighCompromise 28 rfl) rfl ?_
    refine mx_aload_n 0 (mx_da t_X10_weighCompromise 29 rfl) rfl rfl rfl rfl ?_
    refine mx_getR t fs_RX10_71 rfl (tp_s T 1 rfl) ht0 (mx_da t_X10_weighCompromise 30 rfl) rfl ?_
    refine mx_getI fs_RX10_148 rfl (cat_s T ht) (mx_da t_X10_weighCompromise 31 rfl) rfl ?_
    refine mx_callV yX2_settle m_X2_settle [.int (mx_I M t 12)] mm_X2_settle ml_RX10_327 im_X2_settle se_X2_settle (tp_s T 39 rfl) rfl rfl (Nat.le_of_ble_eq_true rfl) (mx_da t_X10_weighCompromise 32 rfl) rfl (Nat.le_of_ble_eq_true rfl) rfl ?_
    refine mx_mono h ?_
    intro o M1 ho
    obtain ⟨e1, e2, ho⟩ := ho
    obtain ⟨rfl, h⟩ := ho
    refine ⟨e1, ?_⟩
    have T := tp_of e1 e2 T
    have ht0 := (congrFun (congrFun e2 1) 10).trans ht0
    clear e1 e2
    show mx_W m_X10_weighCompromise (d + 1) 67 [.ref 1, .int v1, .retAddr 0] [] M1 Q
    exact mx_vret rfl (mx_da t_X10_weighCompromise 33 rfl) h
  · have h := h.2 g9
    refine mx_iconst (v := 0) (mx_da t_X10_weighCompromise 7 rfl) rfl rfl ?_
    refine mx_istore_n 2 [.ref 1, .int v1, .int 0] (mx_da t_X10_weighCompromise 8 rfl) rfl rfl (by decide) rfl ?_
    exact h
set_option maxHeartbeats 1000000 in
theorem x_X10_weighCompromise_15 {d : Nat} {M : mx_M} {Q : mx_O → mx_M → Prop} (T : mx_Tp M) (t : Nat) (ht : mx_Cat t) (ht0 : mx_R M 1 10 = t) (v1 : Int32) (v2 : Int32)
    (h : (((mx_I M t 12) ≤ v2 → mx_W m_X10_weighCompromise (d + 1) 2 [.ref 1, .int (v1 + 1), .retAddr 0] [] M Q) ∧ (¬ (mx_I M t 12) ≤ v2 → (mx_W m_X10_clerksFor d 0 [.ref 1, .int v2, .int v1, .retAddr 0, .retAddr 0] [] M (fun o M1 => mx_sh M1 = mx_sh M ∧ mx_R M1 = mx_R M ∧ (∃ x2 : Int32, o = .inl (some (.int x2)) ∧ (mx_W m_X2_setHurt d 0 [.ref 39, .int v1, .int v2, .int x2] [] M1 (fun o M3 => mx_sh M3 = mx_sh M1 ∧ mx_R M3 = mx_R M1 ∧ (o = .inl none ∧ mx_W m_X10_weighCompromise (d + 1) 15 [.ref 1, .int v1, .int (v2 + 1)] [] M3 Q))))))))) :
    mx_W m_X10_weighCompromise (d + 1) 15 [.ref 1, .int v1, .int v2] [] M Q := by
  refine mx_iload_n 2 (mx_da t_X10_weighCompromise 9 rfl) rfl rfl rfl ?_
  refine mx_aload_n 0 (mx_da t_X10_weighCompromise 10 rfl) rfl rfl rfl rfl ?_
  refine mx_getR t fs_RX10_71 rfl (tp_s T 1 rfl) ht0 (mx_da t_X10_weighCompromise 11 rfl) rfl ?_
  refine mx_getI fs_RX10_148 rfl (cat_s T ht) (mx_da t_X10_weighCompromise 12 rfl) rfl ?_
  refine mx_icmp_ge 47 (mx_da t_X10_weighCompromise 13 rfl) rfl rfl (fun g9 => ?_) (fun g9 => ?_)
  · have h := h.1 g9
    refine mx_iinc 1 (v := v1 + 1) [.ref 1, .int (v1 + 1), .int v2] (mx_da t_X10_weighCompromise 25 rfl) rfl (by decide) rfl rfl rfl ?_
    refine mx_goto (n := 2) (mx_da t_X10_weighCompromise 26 rfl) rfl ?_
    exact mx_wkn [.ref 1, .int (v1 + 1), .retAddr 0] ⟨Or.inr rfl, Or.inr rfl, Or.inl rfl, trivial⟩ h
  · have h := h.2 g9
    refine mx_aload_n 0 (mx_da t_X10_weighCompromise 14 rfl) rfl rfl rfl rfl ?_
    refine mx_getR 39 fs_RX10_57 rfl (tp_s T 1 rfl) (tp_r T 40 rfl) (mx_da t_X10_weighCompromise 15 rfl) rfl ?_
    refine mx_iload_n 1 (mx_da t_X10_weighCompromise 16 rfl) rfl rfl rfl ?_
    refine mx_iload_n 2 (mx_da t_X10_weighCompromise 17 rfl) rfl rfl rfl ?_
    refine mx_aload_n 0 (mx_da t_X10_weighCompromise 18 rfl) rfl rfl rfl rfl ?_
    refine mx_iload_n 2 (mx_da t_X10_weighCompromise 19 rfl) rfl rfl rfl ?_
    refine mx_iload_n 1 (mx_da t_X10_weighCompromise 20 rfl) rfl rfl rfl ?_
    refine mx_callV yX10_clerksFor m_X10_clerksFor [.int v2, .int v1] mm_X10_clerksFor ml_RX10_303 im_X10_clerksFor se_X10_clerksFor (tp_s T 1 rfl) rfl rfl (Nat.le_of_ble_eq_true rfl) (mx_da t_X10_weighCompromise 21 rfl) rfl (Nat.le_of_ble_eq_true rfl) rfl ?_
    refine mx_mono h ?_
    intro o M1 ho
    obtain ⟨e1, e2, ho⟩ := ho
    obtain ⟨x2, rfl, h⟩ := ho
    refine ⟨e1, ?_⟩
    have T := tp_of e1 e2 T
    have ht0 := (congrFun (congrFun e2 1) 10).trans ht0
    clear e1 e2
    show mx_W m_X10_weighCompromise (d + 1) 38 [.ref 1, .int v1, .int v2] [.int x2, .int v2, .int v1, .ref 39] M1 Q
    refine mx_callV yX2_setHurt m_X2_setHurt [.int v1, .int v2, .int x2] mm_X2_setHurt ml_RX10_323 im_X2_setHurt se_X2_setHurt (tp_s T 39 rfl) rfl rfl (Nat.le_of_ble_eq_true rfl) (mx_da t_X10_weighCompromise 22 rfl) rfl (Nat.le_of_ble_eq_true rfl) rfl ?_
    refine mx_mono h ?_
    intro o M3 ho
    obtain ⟨e1, e2, ho⟩ := ho
    obtain ⟨rfl, h⟩ := ho
    refine ⟨e1, ?_⟩
    have T := tp_of e1 e2 T
    have ht0 := (congrFun (congrFun e2 1) 10).trans ht0
    clear e1 e2
    show mx_W m_X10_weighCompromise (d + 1) 41 [.ref 1, .int v1, .int v2] [] M3 Q
    refine mx_iinc 2 (v := v2 + 1) [.ref 1, .int v1, .int (v2 + 1)] (mx_da t_X10_weighCompromise 23 rfl) rfl (by decide) rfl rfl rfl ?_
    refine mx_goto (n := 15) (mx_da t_X10_weighCompromise 24 rfl) rfl ?_
    exact h
set_option maxHeartbeats 1000000 in
theorem x_X10_agreed_0 {d : Nat} {M : mx_M} {Q : mx_O → mx_M → Prop} (T : mx_Tp M) (t : Nat) (ht : mx_Cat t) (ht0 : mx_R M 1 10 = t)
    (h : ((¬ (mx_I M t 13) = 0 → mx_W m_X10_agreed (d + 1) 22 [.ref 1, .int 0, .int 0, .retAddr 0, .retAddr 0] [] M Q) ∧ ((mx_I M t 13) = 0 → Q (.inl (some (.int (mx_I M t 12)))) M))) :
    mx_W m_X10_agreed (d + 1) 0 [.ref 1, .retAddr 0, .retAddr 0, .retAddr 0, .retAddr 0] [] M Q := by
  refine mx_aload_n 0 (mx_da t_X10_agreed 0 rfl) rfl rfl rfl rfl ?_
  refine mx_getR t fs_RX10_71 rfl (tp_s T 1 rfl) ht0 (mx_da t_X10_agreed 1 rfl) rfl ?_
  refine mx_getI fs_RX10_130 rfl (cat_s T ht) (mx_da t_X10_agreed 2 rfl) rfl ?_
  refine mx_if_ne 18 (mx_da t_X10_agreed 3 rfl) rfl rfl (fun g9 => ?_) (fun g9 => ?_)
  · have h := h.1 g9
    refine mx_iconst (v := 0) (mx_da t_X10_agreed 8 rfl) rfl rfl ?_
    refine mx_istore_n 1 [.ref 1, .int 0, .retAddr 0, .retAddr 0, .retAddr 0] (mx_da t_X10_agreed 9 rfl) rfl rfl (by decide) rfl ?_
    refine mx_iconst (v := 0) (mx_da t_X10_agreed 10 rfl) rfl rfl ?_
    refine mx_istore_n 2 [.ref 1, .int 0, .int 0, .retAddr 0, .retAddr 0] (mx_da t_X10_agreed 11 rfl) rfl rfl (by decide) rfl ?_
    exact h
  · have h := h.2 g9
    refine mx_aload_n 0 (mx_da t_X10_agreed 4 rfl) rfl rfl rfl rfl ?_
    refine mx_getR t fs_RX10_71 rfl (tp_s T 1 rfl) ht0 (mx_da t_X10_agreed 5 rfl) rfl ?_
    refine mx_getI fs_RX10_148 rfl (cat_s T ht) (mx_da t_X10_agreed 6 rfl) rfl ?_
    exact mx_iret rfl (mx_da t_X10_agreed 7 rfl) h
set_option maxHeartbeats 1000000 in
theorem x_X10_agreed_22 {d : Nat} {M : mx_M} {Q : mx_O → mx_M → Prop} (T : mx_Tp M) (t : Nat) (ht : mx_Cat t) (ht0 : mx_R M 1 10 = t) (v1 : Int32) (v2 : Int32)
    (h : (((mx_I M t 12) ≤ v2 → Q (.inl (some (.int v1))) M) ∧ (¬ (mx_I M t 12) ≤ v2 → (mx_W m_X3_cardOfRank d 0 [.ref 24, .int 0, .int v2] [] M (fun o M1 => mx_sh M1 = mx_sh M ∧ mx_R M1 = mx_R M ∧ (∃ x2 : Int32, o = .inl (some (.int x2)) ∧ (vp_in v2 10 ∧ (∀ M3, M3 = mx_setI M1 44 (v2.toNatClampNeg) 1 → mx_W m_X10_agreed (d + 1) 53 [.ref 1, .int v1, .int v2, .int x2, .int 0] [] M3 Q)))))))) :
    mx_W m_X10_agreed (d + 1) 22 [.ref 1, .int v1, .int v2, .retAddr 0, .retAddr 0] [] M Q := by
  refine mx_iload_n 2 (mx_da t_X10_agreed 12 rfl) rfl rfl rfl ?_
  refine mx_aload_n 0 (mx_da t_X10_agreed 13 rfl) rfl rfl rfl rfl ?_
  refine mx_getR t fs_RX10_71 rfl (tp_s T 1 rfl) ht0 (mx_da t_X10_agreed 14 rfl) rfl ?_
  refine mx_getI fs_RX10_148 rfl (cat_s T ht) (mx_da t_X10_agreed 15 rfl) rfl ?_
  refine mx_icmp_ge 131 (mx_da t_X10_agreed 16 rfl) rfl rfl (fun g9 => ?_) (fun g9 => ?_)
  · have h := h.1 g9
    refine mx_iload_n 1 (mx_da t_X10_agreed 71 rfl) rfl rfl rfl ?_
    exact mx_iret rfl (mx_da t_X10_agreed 72 rfl) h
  · have h := h.2 g9
    refine mx_aload_n 0 (mx_da t_X10_agreed 17 rfl) rfl rfl rfl rfl ?_
    refine mx_getR 24 fs_RX10_30 rfl (tp_s T 1 rfl) (tp_r T 28 rfl) (mx_da t_X10_agreed 18 rfl) rfl ?_
    refine mx_iconst (v := 0) (mx_da t_X10_agreed 19 rfl) rfl rfl ?_
    refine mx_iload_n 2 (mx_da t_X10_agreed 20 rfl) rfl rfl rfl ?_
    refine mx_callV yX3_cardOfRank m_X3_cardOfRank [.int 0, .int v2] mm_X3_cardOfRank ml_RX10_242 im_X3_cardOfRank se_X3_cardOfRank (tp_s T 24 rfl) rfl rfl (Nat.le_of_ble_eq_true rfl) (mx_da t_X10_agreed 21 rfl) rfl (Nat.le_of_ble_eq_true rfl) rfl ?_
    refine mx_mono h ?_
    intro o M1 ho
    obtain ⟨e1, e2, ho⟩ := ho
    obtain ⟨x2, rfl, h⟩ := ho
    refine ⟨e1, ?_⟩
    have T := tp_of e1 e2 T
    have ht0 := (congrFun (congrFun e2 1) 10).trans ht0
    clear e1 e2
    show mx_W m_X10_agreed (d + 1) 42 [.ref 1, .int v1, .int v2, .retAddr 0, .retAddr 0] [.int x2] M1 Q
    refine mx_istore_n 3 [.ref 1, .int v1, .int v2, .int x2, .retAddr 0] (mx_da t_X10_agreed 22 rfl) rfl rfl (by decide) rfl ?_
    refine mx_aload_n 0 (mx_da t_X10_agreed 23 rfl) rfl rfl rfl rfl ?_
    refine mx_getR 44 fs_RX10_65 rfl (tp_s T 1 rfl) (tp_r T 42 rfl) (mx_da t_X10_agreed 24 rfl) rfl ?_
    refine mx_iload_n 2 (mx_da t_X10_agreed 25 rfl) rfl rfl rfl ?_
    refine mx_iconst (v := 1) (mx_da t_X10_agreed 26 rfl) rfl rfl ?_
    refine mx_iast (tp_s T 44 rfl) h.1 (mx_da t_X10_agreed 27 rfl) rfl ?_
    have h := h.2
    refine mx_gen (mx_setI M1 44 (v2.toNatClampNeg) 1) (fun M3 e9 => ?_)
    have h := h _ e9
    have T : mx_Tp M3 := tp_e e9 T
    have ht0 : mx_R M3 1 10 = t := rr_e e9 ht0
    refine mx_iconst (v := 0) (mx_da t_X10_agreed 28 rfl) rfl rfl ?_
    refine mx_istore 4 [.ref 1, .int v1, .int v2, .int x2, .int 0] (mx_da t_X10_agreed 29 rfl) rfl (by decide) rfl ?_
    exact h
set_option maxHeartbeats 1000000 in
theorem x_X10_agreed_53 {d : Nat} {M : mx_M} {Q : mx_O → mx_M → Prop} (T : mx_Tp M) (t : Nat) (ht : mx_Cat t) (ht0 : mx_R M 1 10 = t) (v1 : Int32) (v2 : Int32) (v3 : Int32) (v4 : Int32)
    (h : ((v2 ≤ v4 → (vp_in v2 10 ∧ (mx_W m_J9_max_7cf53 d 0 [.int v1, .int (mx_I M 44 v2.toNatClampNeg)] [] M (fun o M1 => mx_sh M1 = mx_sh M ∧ mx_R M1 = mx_R M ∧ (∃ x2 : Int32, o = .inl (some (.int x2)) ∧ mx_W m_X10_agreed (d + 1) 22 [.ref 1, .int x2, .int (v2 + 1), .retAddr 0, .retAddr 0] [] M1 Q))))) ∧ (¬ v2 ≤ v4 → (mx_W m_X3_cardOfRank d 0 [.ref 24, .int 0, .int v4] [] M (fun o M3 => mx_sh M3 = mx_sh M ∧ mx_R M3 = mx_R M ∧ (∃ x4 : Int32, o = .inl (some (.int x4)) ∧ (mx_W m_X10_clerksFor d 0 [.ref 1, .int x4, .int v3, .retAddr 0, .retAddr 0] [] M3 (fun o M5 => mx_sh M5 = mx_sh M3 ∧ mx_R M5 = mx_R M3 ∧ (∃ x6 : Int32, o = .inl (some (.int x6)) ∧ ((¬ x6 = (mx_I M5 t 13) → mx_W m_X10_agreed (d + 1) 53 [.ref 1, .int v1, .int v2, .int v3, .int (v4 + 1)] [] M5 Q) ∧ (x6 = (mx_I M5 t 13) → (vp_in v2 10 ∧ (vp_in v4 10 ∧ (mx_W m_J9_max_7cf53 d 0 [.int (mx_I M5 44 v2.toNatClampNeg), .int ((mx_I M5 44 v4.toNatClampNeg) + 1)] [] M5 (fun o M7 => mx_sh M7 = mx_sh M5 ∧ mx_R M7 = mx_R M5 ∧ (∃ x8 : Int32, o = .inl (some (.int x8)) ∧ (vp_in v2 10 ∧ (∀ M9, M9 = mx_setI M7 44 (v2.toNatClampNeg) x8 → mx_W m_X10_agreed (d + 1) 53 [.ref 1, .int v1, .int v2, .int v3, .int (v4 + 1)] [] M9 Q)))))))))))))))))) :
    mx_W m_X10_agreed (d + 1) 53 [.ref 1, .int v1, .int v2, .int v3, .int v4] [] M Q := by
  refine mx_iload 4 (mx_da t_X10_agreed 30 rfl) rfl rfl ?_
  refine mx_iload_n 2 (mx_da t_X10_agreed 31 rfl) rfl rfl rfl ?_
  refine mx_icmp_ge 114 (mx_da t_X10_agreed 32 rfl) rfl rfl (fun g9 => ?_) (fun g9 => ?_)
  · have h := h.1 g9
    refine mx_iload_n 1 (mx_da t_X10_agreed 62 rfl) rfl rfl rfl ?_
    refine mx_aload_n 0 (mx_da t_X10_agreed 63 rfl) rfl rfl rfl rfl ?_
    refine mx_getR 44 fs_RX10_65 rfl (tp_s T 1 rfl) (tp_r T 42 rfl) (mx_da t_X10_agreed 64 rfl) rfl ?_
    refine mx_iload_n 2 (mx_da t_X10_agreed 65 rfl) rfl rfl rfl ?_
    refine mx_iald (tp_s T 44 rfl) h.1 (mx_da t_X10_agreed 66 rfl) rfl ?_
    have h := h.2
    refine mx_callS yJ9_max_7cf53 m_J9_max_7cf53 [.int v1, .int (mx_I M 44 v2.toNatClampNeg)] mm_J9_max_7cf53 ml_RX10_216 st_J9_max_7cf53 rfl (Nat.le_of_ble_eq_true rfl) (mx_da t_X10_agreed 67 rfl) rfl (Nat.le_of_ble_eq_true rfl) rfl ?_
    refine mx_mono h ?_
    intro o M1 ho
    obtain ⟨e1, e2, ho⟩ := ho
    obtain ⟨x2, rfl, h⟩ := ho
    refine ⟨e1, ?_⟩
    have T := tp_of e1 e2 T
    have ht0 := (congrFun (congrFun e2 1) 10).trans ht0
    clear e1 e2
    show mx_W m_X10_agreed (d + 1) 124 [.ref 1, .int v1, .int v2, .int v3, .int v4] [.int x2] M1 Q
    refine mx_istore_n 1 [.ref 1, .int x2, .int v2, .int v3, .int v4] (mx_da t_X10_agreed 68 rfl) rfl rfl (by decide) rfl ?_
    refine mx_iinc 2 (v := v2 + 1) [.ref 1, .int x2, .int (v2 + 1), .int v3, .int v4] (mx_da t_X10_agreed 69 rfl) rfl (by decide) rfl rfl rfl ?_
    refine mx_goto (n := 22) (mx_da t_X10_agreed 70 rfl) rfl ?_
    exact mx_wkn [.ref 1, .int x2, .int (v2 + 1), .retAddr 0, .retAddr 0] ⟨Or.inr rfl, Or.inr rfl, Or.inr rfl, Or.inl rfl, Or.inl rfl, trivial⟩ h
  · have h := h.2 g9
    refine mx_aload_n 0 (mx_da t_X10_agreed 33 rfl) rfl rfl rfl rfl ?_
    refine mx_aload_n 0 (mx_da t_X10_agreed 34 rfl) rfl rfl rfl rfl ?_
    refine mx_getR 24 fs_RX10_30 rfl (tp_s T 1 rfl) (tp_r T 28 rfl) (mx_da t_X10_agreed 35 rfl) rfl ?_
    refine mx_iconst (v := 0) (mx_da t_X10_agreed 36 rfl) rfl rfl ?_
    refine mx_iload 4 (mx_da t_X10_agreed 37 rfl) rfl rfl ?_
    refine mx_callV yX3_cardOfRank m_X3_cardOfRank [.int 0, .int v4] mm_X3_cardOfRank ml_RX10_242 im_X3_cardOfRank se_X3_cardOfRank (tp_s T 24 rfl) rfl rfl (Nat.le_of_ble_eq_true rfl) (mx_da t_X10_agreed 38 rfl) rfl (Nat.le_of_ble_eq_true rfl) rfl ?_
    refine mx_mono h ?_
    intro o M3 ho
    obtain ⟨e1, e2, ho⟩ := ho
    obtain ⟨x4, rfl, h⟩ := ho
    refine ⟨e1, ?_⟩
    have T := tp_of e1 e2 T
    have ht0 := (congrFun (congrFun e2 1) 10).trans ht0
    clear e1 e2
    show mx_W m_X10_agreed (d + 1) 70 [.ref 1, .int v1, .int v2, .int v3, .int v4] [.int x4, .ref 1] M3 Q
    refine mx_iload_n 3 (mx_da t_X10_agreed 39 rfl) rfl rfl rfl ?_
    refine mx_callV yX10_clerksFor m_X10_clerksFor [.int x4, .int v3] mm_X10_clerksFor ml_RX10_303 im_X10_clerksFor se_X10_clerksFor (tp_s T 1 rfl) rfl rfl (Nat.le_of_ble_eq_true rfl) (mx_da t_X10_agreed 40 rfl) rfl (Nat.le_of_ble_eq_true rfl) rfl ?_
    refine mx_mono h ?_
    intro o M5 ho
    obtain ⟨e1, e2, ho⟩ := ho
    obtain ⟨x6, rfl, h⟩ := ho
    refine ⟨e1, ?_⟩
    have T := tp_of e1 e2 T
    have ht0 := (congrFun (congrFun e2 1) 10).trans ht0
    clear e1 e2
    show mx_W m_X10_agreed (d + 1) 74 [.ref 1, .int v1, .int v2, .int v3, .int v4] [.int x6] M5 Q
    refine mx_aload_n 0 (mx_da t_X10_agreed 41 rfl) rfl rfl rfl rfl ?_
    refine mx_getR t fs_RX10_71 rfl (tp_s T 1 rfl) ht0 (mx_da t_X10_agreed 42 rfl) rfl ?_
    refine mx_getI fs_RX10_130 rfl (cat_s T ht) (mx_da t_X10_agreed 43 rfl) rfl ?_
    refine mx_icmp_ne 108 (mx_da t_X10_agreed 44 rfl) rfl rfl (fun g9 => ?_) (fun g9 => ?_)
    · have h := h.1 g9
      refine mx_iinc 4 (v := v4 + 1) [.ref 1, .int v1, .int v2, .int v3, .int (v4 + 1)] (mx_da t_X10_agreed 60 rfl) rfl (by decide) rfl rfl rfl ?_
      refine mx_goto (n := 53) (mx_da t_X10_agreed 61 rfl) rfl ?_
      exact h
    · have h := h.2 g9
      refine mx_aload_n 0 (mx_da t_X10_agreed 45 rfl) rfl rfl rfl rfl ?_
      refine mx_getR 44 fs_RX10_65 rfl (tp_s T 1 rfl) (tp_r T 42 rfl) (mx_da t_X10_agreed 46 rfl) rfl ?_
      refine mx_iload_n 2 (mx_da t_X10_agreed 47 rfl) rfl rfl rfl ?_
      refine mx_aload_n 0 (mx_da t_X10_agreed 48 rfl) rfl rfl rfl rfl ?_
      refine mx_getR 44 fs_RX10_65 rfl (tp_s T 1 rfl) (tp_r T 42 rfl) (mx_da t_X10_agreed 49 rfl) rfl ?_
      refine mx_iload_n 2 (mx_da t_X10_agreed 50 rfl) rfl rfl rfl ?_
      refine mx_iald (tp_s T 44 rfl) h.1 (mx_da t_X10_agreed 51 rfl) rfl ?_
      have h := h.2
      refine mx_aload_n 0 (mx_da t_X10_agreed 52 rfl) rfl rfl rfl rfl ?_
      refine mx_getR 44 fs_RX10_65 rfl (tp_s T 1 rfl) (tp_r T 42 rfl) (mx_da t_X10_agreed 53 rfl) rfl ?_
      refine mx_iload 4 (mx_da t_X10_agreed 54 rfl) rfl rfl ?_
      refine mx_iald (tp_s T 44 rfl) h.1 (mx_da t_X10_agreed 55 rfl) rfl ?_
      have h := h.2
      refine mx_iconst (v := 1) (mx_da t_X10_agreed 56 rfl) rfl rfl ?_
      refine mx_iadd (mx_da t_X10_agreed 57 rfl) rfl ?_
      refine mx_callS yJ9_max_7cf53 m_J9_max_7cf53 [.int (mx_I M5 44 v2.toNatClampNeg), .int ((mx_I M5 44 v4.toNatClampNeg) + 1)] mm_J9_max_7cf53 ml_RX10_216 st_J9_max_7cf53 rfl (Nat.le_of_ble_eq_true rfl) (mx_da t_X10_agreed 58 rfl) rfl (Nat.le_of_ble_eq_true rfl) rfl ?_
      refine mx_mono h ?_
      intro o M7 ho
      obtain ⟨e1, e2, ho⟩ := ho
      obtain ⟨x8, rfl, h⟩ := ho
      refine ⟨e1, ?_⟩
      have T := tp_of e1 e2 T
      have ht0 := (congrFun (congrFun e2 1) 10).trans ht0
      clear e1 e2
      show mx_W m_X10_agreed (d + 1) 107 [.ref 1, .int v1, .int v2, .int v3, .int v4] [.int x8, .int v2, .ref 44] M7 Q
      refine mx_iast (tp_s T 44 rfl) h.1 (mx_da t_X10_agreed 59 rfl) rfl ?_
      have h := h.2
      refine mx_gen (mx_setI M7 44 (v2.toNatClampNeg) x8) (fun M9 e9 => ?_)
      have h := h _ e9
      have T : mx_Tp M9 := tp_e e9 T
      have ht0 : mx_R M9 1 10 = t := rr_e e9 ht0
      refine mx_iinc 4 (v := v4 + 1) [.ref 1, .int v1, .int v2, .int v3, .int (v4 + 1)] (mx_da t_X10_agreed 60 rfl) rfl (by decide) rfl rfl rfl ?_
      refine mx_goto (n := 53) (mx_da t_X10_agreed 61 rfl) rfl ?_
      exact h
set_option maxHeartbeats 1000000 in
theorem x_X10_stay_0 {d : Nat} {M : mx_M} {Q : mx_O → mx_M → Prop} (T : mx_Tp M) (t : Nat) (ht : mx_Cat t) (ht0 : mx_R M 1 10 = t) (v1 : Int32)
    (h : (mx_W m_X10_needClerk d 0 [.ref 1, .int v1] [] M (fun o M1 => mx_sh M1 = mx_sh M ∧ mx_R M1 = mx_R M ∧ ((o = .inl none ∧ (mx_W m_X10_longestStay d 0 [.ref 1, .int v1, .retAddr 0, .retAddr 0, .retAddr 0] [] M1 (fun o M2 => mx_sh M2 = mx_sh M1 ∧ mx_R M2 = mx_R M1 ∧ (∃ x3 : Int32, o = .inl (some (.int x3)) ∧ (∀ M4, M4 = mx_setI M2 1 11 0 → mx_W m_X10_stay (d + 1) 21 [.ref 1, .int v1, .int x3, .int (-1), .int 0, .retAddr 0] [] M4 Q))))) ∨ ∃ E, o = .inr E ∧ Q (.inr E) M1)))) :
    mx_W m_X10_stay (d + 1) 0 [.ref 1, .int v1, .retAddr 0, .retAddr 0, .retAddr 0, .retAddr 0] [] M Q := by
  refine mx_aload_n 0 (mx_da t_X10_stay 0 rfl) rfl rfl rfl rfl ?_
  refine mx_iload_n 1 (mx_da t_X10_stay 1 rfl) rfl rfl rfl ?_
  refine mx_callV yX10_needClerk m_X10_needClerk [.int v1] mm_X10_needClerk ml_RX10_184 im_X10_needClerk se_X10_needClerk (tp_s T 1 rfl) rfl rfl (Nat.le_of_ble_eq_true rfl) (mx_da t_X10_stay 2 rfl) rfl (Nat.le_of_ble_eq_true rfl) rfl ?_
  refine mx_mono h ?_
  intro o M1 ho
  obtain ⟨e1, e2, ho⟩ := ho
  rcases ho with ⟨rfl, h⟩ | ⟨E, rfl, h⟩
  rotate_left
  · exact ⟨e1, h⟩
  refine ⟨e1, ?_⟩
  have T := tp_of e1 e2 T
  have ht0 := (congrFun (congrFun e2 1) 10).trans ht0
  clear e1 e2
  show mx_W m_X10_stay (d + 1) 5 [.ref 1, .int v1, .retAddr 0, .retAddr 0, .retAddr 0, .retAddr 0] [] M1 Q
  refine mx_aload_n 0 (mx_da t_X10_stay 3 rfl) rfl rfl rfl rfl ?_
  refine mx_iload_n 1 (mx_da t_X10_stay 4 rfl) rfl rfl rfl ?_
  refine mx_callV yX10_longestStay m_X10_longestStay [.int v1] mm_X10_longestStay ml_RX10_204 im_X10_longestStay se_X10_longestStay (tp_s T 1 rfl) rfl rfl (Nat.le_of_ble_eq_true rfl) (mx_da t_X10_stay 5 rfl) rfl (Nat.le_of_ble_eq_true rfl) rfl ?_
  refine mx_mono h ?_
  intro o M2 ho
  obtain ⟨e1, e2, ho⟩ := ho
  obtain ⟨x3, rfl, h⟩ := ho
  refine ⟨e1, ?_⟩
  have T := tp_of e1 e2 T
  have ht0 := (congrFun (congrFun e2 1) 10).trans ht0
  clear e1 e2
  show mx_W m_X10_stay (d + 1) 10 [.ref 1, .int v1, .retAddr 0, .retAddr 0, .retAddr 0, .retAddr 0] [.int x3] M2 Q
  refine mx_istore_n 2 [.ref 1, .int v1, .int x3, .retAddr 0, .retAddr 0, .retAddr 0] (mx_da t_X10_stay 6 rfl) rfl rfl (by decide) rfl ?_
  refine mx_iconst (v := (-1)) (mx_da t_X10_stay 7 rfl) rfl rfl ?_
  refine mx_istore_n 3 [.ref 1, .int v1, .int x3, .int (-1), .retAddr 0, .retAddr 0] (mx_da t_X10_stay 8 rfl) rfl rfl (by decide) rfl ?_
  refine mx_aload_n 0 (mx_da t_X10_stay 9 rfl) rfl rfl rfl rfl ?_
  refine mx_iconst (v := 0) (mx_da t_X10_stay 10 rfl) rfl rfl ?_
  refine mx_putI fs_RX10_75 rfl (tp_s T 1 rfl) rfl rfl rfl (mx_da t_X10_stay 11 rfl) rfl ?_
  refine mx_gen (mx_setI M2 1 11 0) (fun M4 e9 => ?_)
  have h := h _ e9
  have T : mx_Tp M4 := tp_e e9 T
  have ht0 : mx_R M4 1 10 = t := rr_e e9 ht0
  refine mx_iconst (v := 0) (mx_da t_X10_stay 12 rfl) rfl rfl ?_
  refine mx_istore 4 [.ref 1, .int v1, .int x3, .int (-1), .int 0, .retAddr 0] (mx_da t_X10_stay 13 rfl) rfl (by decide) rfl ?_
  exact h
set_option maxHeartbeats 1000000 in
theorem x_X10_stay_21 {d : Nat} {M : mx_M} {Q : mx_O → mx_M → Prop} (T : mx_Tp M) (t : Nat) (ht : mx_Cat t) (ht0 : mx_R M 1 10 = t) (v1 : Int32) (v2 : Int32) (v3 : Int32) (v4 : Int32)
    (h : (((mx_I M 31 1) ≤ v4 → Q (.inl (some (.int (mx_I M 1 11)))) M) ∧ (¬ (mx_I M 31 1) ≤ v4 → (vp_in v4 10 ∧ (vp_in v4 10 ∧ ((¬ (mx_I M 44 v4.toNatClampNeg) = v2 → mx_W m_X10_stay (d + 1) 21 [.ref 1, .int v1, .int v2, .int v3, .int (v4 + 1), .retAddr 0] [] M Q) ∧ ((mx_I M 44 v4.toNatClampNeg) = v2 → ((v3 = (-1 : Int32) → (vp_in (mx_I M 1 11) 10 ∧ (∀ M1, M1 = mx_setI M 43 ((mx_I M 1 11).toNatClampNeg) (mx_I M 32 v4.toNatClampNeg) → (∀ M2, M2 = mx_setI M1 1 11 ((mx_I M1 1 11) + 1) → mx_W m_X10_stay (d + 1) 21 [.ref 1, .int v1, .int (v2 + (-1)), .int (mx_I M 32 v4.toNatClampNeg), .int (v4 + 1), .retAddr 0] [] M2 Q)))) ∧ (¬ v3 = (-1 : Int32) → (mx_W m_X3_isAhead d 0 [.ref 24, .int v1, .int v3, .int (mx_I M 32 v4.toNatClampNeg)] [] M (fun o M3 => mx_sh M3 = mx_sh M ∧ mx_R M3 = mx_R M ∧ (∃ x4 : Bool, o = .inl (some (.int (mx_b x4))) ∧ ((x4 = false → mx_W m_X10_stay (d + 1) 21 [.ref 1, .int v1, .int v2, .int v3, .int (v4 + 1), .retAddr 0] [] M3 Q) ∧ (x4 = true → (vp_in (mx_I M3 1 11) 10 ∧ (∀ M5, M5 = mx_setI M3 43 ((mx_I M3 1 11).toNatClampNeg) (mx_I M 32 v4.toNatClampNeg) → (∀ M6, M6 = mx_setI M5 1 11 ((mx_I M5 1 11) + 1) → mx_W m_X10_stay (d + 1) 21 [.ref 1, .int v1, .int (v2 + (-1)), .int (mx_I M 32 v4.toNatClampNeg), .int (v4 + 1), .retAddr 0] [] M6 Q))))))))))))))))) :
    mx_W m_X10_stay (d + 1) 21 [.ref 1, .int v1, .int v2, .int v3, .int v4, .retAddr 0] [] M Q := by
  refine mx_iload 4 (mx_da t_X10_stay 14 rfl) rfl rfl ?_
  refine mx_aload_n 0 (mx_da t_X10_stay 15 rfl) rfl rfl rfl rfl ?_
  refine mx_getR 31 fs_RX10_37 rfl (tp_s T 1 rfl) (tp_r T 30 rfl) (mx_da t_X10_stay 16 rfl) rfl ?_
  refine mx_getI fs_RX10_144 rfl (tp_s T 31 rfl) (mx_da t_X10_stay 17 rfl) rfl ?_
  refine mx_icmp_ge 108 (mx_da t_X10_stay 18 rfl) rfl rfl (fun g9 => ?_) (fun g9 => ?_)
  · have h := h.1 g9
    refine mx_aload_n 0 (mx_da t_X10_stay 58 rfl) rfl rfl rfl rfl ?_
    refine mx_getI fs_RX10_75 rfl (tp_s T 1 rfl) (mx_da t_X10_stay 59 rfl) rfl ?_
    exact mx_iret rfl (mx_da t_X10_stay 60 rfl) h
  · have h := h.2 g9
    refine mx_aload_n 0 (mx_da t_X10_stay 19 rfl) rfl rfl rfl rfl ?_
    refine mx_getR 31 fs_RX10_37 rfl (tp_s T 1 rfl) (tp_r T 30 rfl) (mx_da t_X10_stay 20 rfl) rfl ?_
    refine mx_getR 32 fs_RX10_247 rfl (tp_s T 31 rfl) (tp_r T 29 rfl) (mx_da t_X10_stay 21 rfl) rfl ?_
    refine mx_iload 4 (mx_da t_X10_stay 22 rfl) rfl rfl ?_
    refine mx_iald (tp_s T 32 rfl) h.1 (mx_da t_X10_stay 23 rfl) rfl ?_
    have h := h.2
    refine mx_istore 5 [.ref 1, .int v1, .int v2, .int v3, .int v4, .int (mx_I M 32 v4.toNatClampNeg)] (mx_da t_X10_stay 24 rfl) rfl (by decide) rfl ?_
    refine mx_aload_n 0 (mx_da t_X10_stay 25 rfl) rfl rfl rfl rfl ?_
    refine mx_getR 44 fs_RX10_65 rfl (tp_s T 1 rfl) (tp_r T 42 rfl) (mx_da t_X10_stay 26 rfl) rfl ?_
    refine mx_iload 4 (mx_da t_X10_stay 27 rfl) rfl rfl ?_
    refine mx_iald (tp_s T 44 rfl) h.1 (mx_da t_X10_stay 28 rfl) rfl ?_
    have h := h.2
    refine mx_iload_n 2 (mx_da t_X10_stay 29 rfl) rfl rfl rfl ?_
    refine mx_icmp_ne 102 (mx_da t_X10_stay 30 rfl) rfl rfl (fun g9 => ?_) (fun g9 => ?_)
    · have h := h.1 g9
      refine mx_iinc 4 (v := v4 + 1) [.ref 1, .int v1, .int v2, .int v3, .int (v4 + 1), .int (mx_I M 32 v4.toNatClampNeg)] (mx_da t_X10_stay 56 rfl) rfl (by decide) rfl rfl rfl ?_
      refine mx_goto (n := 21) (mx_da t_X10_stay 57 rfl) rfl ?_
      exact mx_wkn [.ref 1, .int v1, .int v2, .int v3, .int (v4 + 1), .retAddr 0] ⟨Or.inr rfl, Or.inr rfl, Or.inr rfl, Or.inr rfl, Or.inr rfl, Or.inl rfl, trivial⟩ h
    · have h := h.2 g9
      refine mx_iload_n 3 (mx_da t_X10_stay 31 rfl) rfl rfl rfl ?_
      refine mx_iconst (v := (-1)) (mx_da t_X10_stay 32 rfl) rfl rfl ?_
      refine mx_icmp_eq 75 (mx_da t_X10_stay 33 rfl) rfl rfl (fun g9 => ?_) (fun g9 => ?_)
      · have h := h.1 g9
        refine mx_aload_n 0 (mx_da t_X10_stay 41 rfl) rfl rfl rfl rfl ?_
        refine mx_getR 43 fs_RX10_61 rfl (tp_s T 1 rfl) (tp_r T 41 rfl) (mx_da t_X10_stay 42 rfl) rfl ?_
        refine mx_aload_n 0 (mx_da t_X10_stay 43 rfl) rfl rfl rfl rfl ?_
        refine mx_getI fs_RX10_75 rfl (tp_s T 1 rfl) (mx_da t_X10_stay 44 rfl) rfl ?_
        refine mx_iload 5 (mx_da t_X10_stay 45 rfl) rfl rfl ?_
        refine mx_iast (tp_s T 43 rfl) h.1 (mx_da t_X10_stay 46 rfl) rfl ?_
        have h := h.2
        refine mx_gen (mx_setI M 43 ((mx_I M 1 11).toNatClampNeg) (mx_I M 32 v4.toNatClampNeg)) (fun M1 e9 => ?_)
        have h := h _ e9
        have T : mx_Tp M1 := tp_e e9 T
        have ht0 : mx_R M1 1 10 = t := rr_e e9 ht0
        refine mx_aload_n 0 (mx_da t_X10_stay 47 rfl) rfl rfl rfl rfl ?_
        refine mx_dup (mx_da t_X10_stay 48 rfl) rfl rfl ?_
        refine mx_getI fs_RX10_75 rfl (tp_s T 1 rfl) (mx_da t_X10_stay 49 rfl) rfl ?_
        refine mx_iconst (v := 1) (mx_da t_X10_stay 50 rfl) rfl rfl ?_
        refine mx_iadd (mx_da t_X10_stay 51 rfl) rfl ?_
        refine mx_putI fs_RX10_75 rfl (tp_s T 1 rfl) rfl rfl rfl (mx_da t_X10_stay 52 rfl) rfl ?_
        refine mx_gen (mx_setI M1 1 11 ((mx_I M1 1 11) + 1)) (fun M2 e9 => ?_)
        have h := h _ e9
        have T : mx_Tp M2 := tp_e e9 T
        have ht0 : mx_R M2 1 10 = t := rr_e e9 ht0
        refine mx_iload 5 (mx_da t_X10_stay 53 rfl) rfl rfl ?_
        refine mx_istore_n 3 [.ref 1, .int v1, .int v2, .int (mx_I M 32 v4.toNatClampNeg), .int v4, .int (mx_I M 32 v4.toNatClampNeg)] (mx_da t_X10_stay 54 rfl) rfl rfl (by decide) rfl ?_
        refine mx_iinc 2 (v := v2 + (-1)) [.ref 1, .int v1, .int (v2 + (-1)), .int (mx_I M 32 v4.toNatClampNeg), .int v4, .int (mx_I M 32 v4.toNatClampNeg)] (mx_da t_X10_stay 55 rfl) rfl (by decide) rfl rfl rfl ?_
        refine mx_iinc 4 (v := v4 + 1) [.ref 1, .int v1, .int (v2 + (-1)), .int (mx_I M 32 v4.toNatClampNeg), .int (v4 + 1), .int (mx_I M 32 v4.toNatClampNeg)] (mx_da t_X10_stay 56 rfl) rfl (by decide) rfl rfl rfl ?_
        refine mx_goto (n := 21) (mx_da t_X10_stay 57 rfl) rfl ?_
        exact mx_wkn [.ref 1, .int v1, .int (v2 + (-1)), .int (mx_I M 32 v4.toNatClampNeg), .int (v4 + 1), .retAddr 0] ⟨Or.inr rfl, Or.inr rfl, Or.inr rfl, Or.inr rfl, Or.inr rfl, Or.inl rfl, trivial⟩ h
      · have h := h.2 g9
        refine mx_aload_n 0 (mx_da t_X10_stay 34 rfl) rfl rfl rfl rfl ?_
        refine mx_getR 24 fs_RX10_30 rfl (tp_s T 1 rfl) (tp_r T 28 rfl) (mx_da t_X10_stay 35 rfl) rfl ?_
        refine mx_iload_n 1 (mx_da t_X10_stay 36 rfl) rfl rfl rfl ?_
        refine mx_iload_n 3 (mx_da t_X10_stay 37 rfl) rfl rfl rfl ?_
        refine mx_iload 5 (mx_da t_X10_stay 38 rfl) rfl rfl ?_
        refine mx_callV yX3_isAhead m_X3_isAhead [.int v1, .int v3, .int (mx_I M 32 v4.toNatClampNeg)] mm_X3_isAhead ml_RX10_236 im_X3_isAhead se_X3_isAhead (tp_s T 24 rfl) rfl rfl (Nat.le_of_ble_eq_true rfl) (mx_da t_X10_stay 39 rfl) rfl (Nat.le_of_ble_eq_true rfl) rfl ?_
        refine mx_mono h ?_
        intro o M3 ho
        obtain ⟨e1, e2, ho⟩ := ho
        obtain ⟨x4, rfl, h⟩ := ho
        refine ⟨e1, ?_⟩
        have T := tp_of e1 e2 T
        have ht0 := (congrFun (congrFun e2 1) 10).trans ht0
        clear e1 e2
        show mx_W m_X10_stay (d + 1) 72 [.ref 1, .int v1, .int v2, .int v3, .int v4, .int (mx_I M 32 v4.toNatClampNeg)] [.int (mx_b x4)] M3 Q
        refine mx_if_eq 102 (mx_da t_X10_stay 40 rfl) rfl rfl (fun g9 => ?_) (fun g9 => ?_)
        · have h := h.1 (mx_b0.mp g9)
          refine mx_iinc 4 (v := v4 + 1) [.ref 1, .int v1, .int v2, .int v3, .int (v4 + 1), .int (mx_I M 32 v4.toNatClampNeg)] (mx_da t_X10_stay 56 rfl) rfl (by decide) rfl rfl rfl ?_
          refine mx_goto (n := 21) (mx_da t_X10_stay 57 rfl) rfl ?_
          exact mx_wkn [.ref 1, .int v1, .int v2, .int v3, .int (v4 + 1), .retAddr 0] ⟨Or.inr rfl, Or.inr rfl, Or.inr rfl, Or.inr rfl, Or.inr rfl, Or.inl rfl, trivial⟩ h
        · have h := h.2 (mx_bn.mp g9)
          refine mx_aload_n 0 (mx_da t_X10_stay 41 rfl) rfl rfl rfl rfl ?_
          refine mx_getR 43 fs_RX10_61 rfl (tp_s T 1 rfl) (tp_r T 41 rfl) (mx_da t_X10_stay 42 rfl) rfl ?_
          refine mx_aload_n 0 (mx_da t_X10_stay 43 rfl) rfl rfl rfl rfl ?_
          refine mx_getI fs_RX10_75 rfl (tp_s T 1 rfl) (mx_da t_X10_stay 44 rfl) rfl ?_
          refine mx_iload 5 (mx_da t_X10_stay 45 rfl) rfl rfl ?_
          refine mx_iast (tp_s T 43 rfl) h.1 (mx_da t_X10_stay 46 rfl) rfl ?_
          have h := h.2
          refine mx_gen (mx_setI M3 43 ((mx_I M3 1 11).toNatClampNeg) (mx_I M 32 v4.toNatClampNeg)) (fun M5 e9 => ?_)
          have h := h _ e9
          have T : mx_Tp M5 := tp_e e9 T
          have ht0 : mx_R M5 1 10 = t := rr_e e9 ht0
          refine mx_aload_n 0 (mx_da t_X10_stay 47 rfl) rfl rfl rfl rfl ?_
          refine mx_dup (mx_da t_X10_stay 48 rfl) rfl rfl ?_
          refine mx_getI fs_RX10_75 rfl (tp_s T 1 rfl) (mx_da t_X10_stay 49 rfl) rfl ?_
          refine mx_iconst (v := 1) (mx_da t_X10_stay 50 rfl) rfl rfl ?_
          refine mx_iadd (mx_da t_X10_stay 51 rfl) rfl ?_
          refine mx_putI fs_RX10_75 rfl (tp_s T 1 rfl) rfl rfl rfl (mx_da t_X10_stay 52 rfl) rfl ?_
          refine mx_gen (mx_setI M5 1 11 ((mx_I M5 1 11) + 1)) (fun M6 e9 => ?_)
          have h := h _ e9
          have T : mx_Tp M6 := tp_e e9 T
          have ht0 : mx_R M6 1 10 = t := rr_e e9 ht0
          refine mx_iload 5 (mx_da t_X10_stay 53 rfl) rfl rfl ?_
          refine mx_istore_n 3 [.ref 1, .int v1, .int v2, .int (mx_I M 32 v4.toNatClampNeg), .int v4, .int (mx_I M 32 v4.toNatClampNeg)] (mx_da t_X10_stay 54 rfl) rfl rfl (by decide) rfl ?_
          refine mx_iinc 2 (v := v2 + (-1)) [.ref 1, .int v1, .int (v2 + (-1)), .int (mx_I M 32 v4.toNatClampNeg), .int v4, .int (mx_I M 32 v4.toNatClampNeg)] (mx_da t_X10_stay 55 rfl) rfl (by decide) rfl rfl rfl ?_
          refine mx_iinc 4 (v := v4 + 1) [.ref 1, .int v1, .int (v2 + (-1)), .int (mx_I M 32 v4.toNatClampNeg), .int (v4 + 1), .int (mx_I M 32 v4.toNatClampNeg)] (mx_da t_X10_stay 56 rfl) rfl (by decide) rfl rfl rfl ?_
          refine mx_goto (n := 21) (mx_da t_X10_stay 57 rfl) rfl ?_
          exact mx_wkn [.ref 1, .int v1, .int (v2 + (-1)), .int (mx_I M 32 v4.toNatClampNeg), .int (v4 + 1), .retAddr 0] ⟨Or.inr rfl, Or.inr rfl, Or.inr rfl, Or.inr rfl, Or.inr rfl, Or.inl rfl, trivial⟩ h
set_option maxHeartbeats 1000000 in
theorem x_X10_longestStay_0 {d : Nat} {M : mx_M} {Q : mx_O → mx_M → Prop} (T : mx_Tp M) (t : Nat) (ht : mx_Cat t) (ht0 : mx_R M 1 10 = t) (v1 : Int32)
    (h : mx_W m_X10_longestStay (d + 1) 12 [.ref 1, .int v1, .int 0, .int ((mx_I M 31 1) - 1), .retAddr 0] [] M Q) :
    mx_W m_X10_longestStay (d + 1) 0 [.ref 1, .int v1, .retAddr 0, .retAddr 0, .retAddr 0] [] M Q := by
  refine mx_iconst (v := 0) (mx_da t_X10_longestStay 0 rfl) rfl rfl ?_
  refine mx_istore_n 2 [.ref 1, .int v1, .int 0, .retAddr 0, .retAddr 0] (mx_da t_X10_longestStay 1 rfl) rfl rfl (by decide) rfl ?_
  refine mx_aload_n 0 (mx_da t_X10_longestStay 2 rfl) rfl rfl rfl rfl ?_
  refine mx_getR 31 fs_RX10_37 rfl (tp_s T 1 rfl) (tp_r T 30 rfl) (mx_da t_X10_longestStay 3 rfl) rfl ?_
  refine mx_getI fs_RX10_144 rfl (tp_s T 31 rfl) (mx_da t_X10_longestStay 4 rfl) rfl ?_
  refine mx_iconst (v := 1) (mx_da t_X10_longestStay 5 rfl) rfl rfl ?_
  refine mx_isub (mx_da t_X10_longestStay 6 rfl) rfl ?_
  refine mx_istore_n 3 [.ref 1, .int v1, .int 0, .int ((mx_I M 31 1) - 1), .retAddr 0] (mx_da t_X10_longestStay 7 rfl) rfl rfl (by decide) rfl ?_
  exact h
set_option maxHeartbeats 1000000 in
theorem x_X10_longestStay_12 {d : Nat} {M : mx_M} {Q : mx_O → mx_M → Prop} (T : mx_Tp M) (t : Nat) (ht : mx_Cat t) (ht0 : mx_R M 1 10 = t) (v1 : Int32) (v2 : Int32) (v3 : Int32)
    (h : ((v3 < 0 → Q (.inl (some (.int v2))) M) ∧ (¬ v3 < 0 → (vp_in v3 10 ∧ (∀ M1, M1 = mx_setI M 44 (v3.toNatClampNeg) 1 → mx_W m_X10_longestStay (d + 1) 28 [.ref 1, .int v1, .int v2, .int v3, .int (v3 + 1)] [] M1 Q))))) :
    mx_W m_X10_longestStay (d + 1) 12 [.ref 1, .int v1, .int v2, .int v3, .retAddr 0] [] M Q := by
  refine mx_iload_n 3 (mx_da t_X10_longestStay 8 rfl) rfl rfl rfl ?_
  refine mx_if_lt 117 (mx_da t_X10_longestStay 9 rfl) rfl rfl (fun g9 => ?_) (fun g9 => ?_)
  · have h := h.1 g9
    refine mx_iload_n 2 (mx_da t_X10_longestStay 65 rfl) rfl rfl rfl ?_
    exact mx_iret rfl (mx_da t_X10_longestStay 66 rfl) h
  · have h := h.2 g9
    refine mx_aload_n 0 (mx_da t_X10_longestStay 10 rfl) rfl rfl rfl rfl ?_
    refine mx_getR 44 fs_RX10_65 rfl (tp_s T 1 rfl) (tp_r T 42 rfl) (mx_da t_X10_longestStay 11 rfl) rfl ?_
    refine mx_iload_n 3 (mx_da t_X10_longestStay 12 rfl) rfl rfl rfl ?_
    refine mx_iconst (v := 1) (mx_da t_X10_longestStay 13 rfl) rfl rfl ?_
    refine mx_iast (tp_s T 44 rfl) h.1 (mx_da t_X10_longestStay 14 rfl) rfl ?_
    have h := h.2
    refine mx_gen (mx_setI M 44 (v3.toNatClampNeg) 1) (fun M1 e9 => ?_)
    have h := h _ e9
    have T : mx_Tp M1 := tp_e e9 T
    have ht0 : mx_R M1 1 10 = t := rr_e e9 ht0
    refine mx_iload_n 3 (mx_da t_X10_longestStay 15 rfl) rfl rfl rfl ?_
    refine mx_iconst (v := 1) (mx_da t_X10_longestStay 16 rfl) rfl rfl ?_
    refine mx_iadd (mx_da t_X10_longestStay 17 rfl) rfl ?_
    refine mx_istore 4 [.ref 1, .int v1, .int v2, .int v3, .int (v3 + 1)] (mx_da t_X10_longestStay 18 rfl) rfl (by decide) rfl ?_
    exact h
set_option maxHeartbeats 1000000 in
theorem x_X10_longestStay_28 {d : Nat} {M : mx_M} {Q : mx_O → mx_M → Prop} (T : mx_Tp M) (t : Nat) (ht : mx_Cat t) (ht0 : mx_R M 1 10 = t) (v1 : Int32) (v2 : Int32) (v3 : Int32) (v4 : Int32)
    (h : (((mx_I M 31 1) ≤ v4 → (vp_in v3 10 ∧ (mx_W m_J9_max_7cf53 d 0 [.int v2, .int (mx_I M 44 v3.toNatClampNeg)] [] M (fun o M1 => mx_sh M1 = mx_sh M ∧ mx_R M1 = mx_R M ∧ (∃ x2 : Int32, o = .inl (some (.int x2)) ∧ mx_W m_X10_longestStay (d + 1) 12 [.ref 1, .int v1, .int x2, .int (v3 + (-1)), .retAddr 0] [] M1 Q))))) ∧ (¬ (mx_I M 31 1) ≤ v4 → (vp_in v3 10 ∧ (vp_in v4 10 ∧ (mx_W m_X3_isAhead d 0 [.ref 24, .int v1, .int (mx_I M 32 v3.toNatClampNeg), .int (mx_I M 32 v4.toNatClampNeg)] [] M (fun o M3 => mx_sh M3 = mx_sh M ∧ mx_R M3 = mx_R M ∧ (∃ x4 : Bool, o = .inl (some (.int (mx_b x4))) ∧ ((x4 = false → mx_W m_X10_longestStay (d + 1) 28 [.ref 1, .int v1, .int v2, .int v3, .int (v4 + 1)] [] M3 Q) ∧ (x4 = true → (vp_in v3 10 ∧ (vp_in v4 10 ∧ (mx_W m_J9_max_7cf53 d 0 [.int (mx_I M3 44 v3.toNatClampNeg), .int ((mx_I M3 44 v4.toNatClampNeg) + 1)] [] M3 (fun o M5 => mx_sh M5 = mx_sh M3 ∧ mx_R M5 = mx_R M3 ∧ (∃ x6 : Int32, o = .inl (some (.int x6)) ∧ (vp_in v3 10 ∧ (∀ M7, M7 = mx_setI M5 44 (v3.toNatClampNeg) x6 → mx_W m_X10_longestStay (d + 1) 28 [.ref 1, .int v1, .int v2, .int v3, .int (v4 + 1)] [] M7 Q))))))))))))))))) :
    mx_W m_X10_longestStay (d + 1) 28 [.ref 1, .int v1, .int v2, .int v3, .int v4] [] M Q := by
  refine mx_iload 4 (mx_da t_X10_longestStay 19 rfl) rfl rfl ?_
  refine mx_aload_n 0 (mx_da t_X10_longestStay 20 rfl) rfl rfl rfl rfl ?_
  refine mx_getR 31 fs_RX10_37 rfl (tp_s T 1 rfl) (tp_r T 30 rfl) (mx_da t_X10_longestStay 21 rfl) rfl ?_
  refine mx_getI fs_RX10_144 rfl (tp_s T 31 rfl) (mx_da t_X10_longestStay 22 rfl) rfl ?_
  refine mx_icmp_ge 100 (mx_da t_X10_longestStay 23 rfl) rfl rfl (fun g9 => ?_) (fun g9 => ?_)
  · have h := h.1 g9
    refine mx_iload_n 2 (mx_da t_X10_longestStay 56 rfl) rfl rfl rfl ?_
    refine mx_aload_n 0 (mx_da t_X10_longestStay 57 rfl) rfl rfl rfl rfl ?_
    refine mx_getR 44 fs_RX10_65 rfl (tp_s T 1 rfl) (tp_r T 42 rfl) (mx_da t_X10_longestStay 58 rfl) rfl ?_
    refine mx_iload_n 3 (mx_da t_X10_longestStay 59 rfl) rfl rfl rfl ?_
    refine mx_iald (tp_s T 44 rfl) h.1 (mx_da t_X10_longestStay 60 rfl) rfl ?_
    have h := h.2
    refine mx_callS yJ9_max_7cf53 m_J9_max_7cf53 [.int v2, .int (mx_I M 44 v3.toNatClampNeg)] mm_J9_max_7cf53 ml_RX10_216 st_J9_max_7cf53 rfl (Nat.le_of_ble_eq_true rfl) (mx_da t_X10_longestStay 61 rfl) rfl (Nat.le_of_ble_eq_true rfl) rfl ?_
    refine mx_mono h ?_
    intro o M1 ho
    obtain ⟨e1, e2, ho⟩ := ho
    obtain ⟨x2, rfl, h⟩ := ho
    refine ⟨e1, ?_⟩
    have T := tp_of e1 e2 T
    have ht0 := (congrFun (congrFun e2 1) 10).trans ht0
    clear e1 e2
    show mx_W m_X10_longestStay (d + 1) 110 [.ref 1, .int v1, .int v2, .int v3, .int v4] [.int x2] M1 Q
    refine mx_istore_n 2 [.ref 1, .int v1, .int x2, .int v3, .int v4] (mx_da t_X10_longestStay 62 rfl) rfl rfl (by decide) rfl ?_
    refine mx_iinc 3 (v := v3 + (-1)) [.ref 1, .int v1, .int x2, .int (v3 + (-1)), .int v4] (mx_da t_X10_longestStay 63 rfl) rfl (by decide) rfl rfl rfl ?_
    refine mx_goto (n := 12) (mx_da t_X10_longestStay 64 rfl) rfl ?_
    exact mx_wkn [.ref 1, .int v1, .int x2, .int (v3 + (-1)), .retAddr 0] ⟨Or.inr rfl, Or.inr rfl, Or.inr rfl, Or.inr rfl, Or.inl rfl, trivial⟩ h
  · have h := h.2 g9
    refine mx_aload_n 0 (mx_da t_X10_longestStay 24 rfl) rfl rfl rfl rfl ?_
    refine mx_getR 24 fs_RX10_30 rfl (tp_s T 1 rfl) (tp_r T 28 rfl) (mx_da t_X10_longestStay 25 rfl) rfl ?_
    refine mx_iload_n 1 (mx_da t_X10_longestStay 26 rfl) rfl rfl rfl ?_
    refine mx_aload_n 0 (mx_da t_X10_longestStay 27 rfl) rfl rfl rfl rfl ?_
    refine mx_getR 31 fs_RX10_37 rfl (tp_s T 1 rfl) (tp_r T 30 rfl) (mx_da t_X10_longestStay 28 rfl) rfl ?_
    refine mx_getR 32 fs_RX10_247 rfl (tp_s T 31 rfl) (tp_r T 29 rfl) (mx_da t_X10_longestStay 29 rfl) rfl ?_
    refine mx_iload_n 3 (mx_da t_X10_longestStay 30 rfl) rfl rfl rfl ?_
    refine mx_iald (tp_s T 32 rfl) h.1 (mx_da t_X10_longestStay 31 rfl) rfl ?_
    have h := h.2
    refine mx_aload_n 0 (mx_da t_X10_longestStay 32 rfl) rfl rfl rfl rfl ?_
    refine mx_getR 31 fs_RX10_37 rfl (tp_s T 1 rfl) (tp_r T 30 rfl) (mx_da t_X10_longestStay 33 rfl) rfl ?_
    refine mx_getR 32 fs_RX10_247 rfl (tp_s T 31 rfl) (tp_r T 29 rfl) (mx_da t_X10_longestStay 34 rfl) rfl ?_
    refine mx_iload 4 (mx_da t_X10_longestStay 35 rfl) rfl rfl ?_
    refine mx_iald (tp_s T 32 rfl) h.1 (mx_da t_X10_longestStay 36 rfl) rfl ?_
    have h := h.2
    refine mx_callV yX3_isAhead m_X3_isAhead [.int v1, .int (mx_I M 32 v3.toNatClampNeg), .int (mx_I M 32 v4.toNatClampNeg)] mm_X3_isAhead ml_RX10_236 im_X3_isAhead se_X3_isAhead (tp_s T 24 rfl) rfl rfl (Nat.le_of_ble_eq_true rfl) (mx_da t_X10_longestStay 37 rfl) rfl (Nat.le_of_ble_eq_true rfl) rfl ?_
    refine mx_mono h ?_
    intro o M3 ho
    obtain ⟨e1, e2, ho⟩ := ho
    obtain ⟨x4, rfl, h⟩ := ho
    refine ⟨e1, ?_⟩
    have T := tp_of e1 e2 T
    have ht0 := (congrFun (congrFun e2 1) 10).trans ht0
    clear e1 e2
    show mx_W m_X10_longestStay (d + 1) 67 [.ref 1, .int v1, .int v2, .int v3, .int v4] [.int (mx_b x4)] M3 Q
    refine mx_if_eq 94 (mx_da t_X10_longestStay 38 rfl) rfl rfl (fun g9 => ?_) (fun g9 => ?_)
    · have h := h.1 (mx_b0.mp g9)
      refine mx_iinc 4 (v := v4 + 1) [.ref 1, .int v1, .int v2, .int v3, .int (v4 + 1)] (mx_da t_X10_longestStay 54 rfl) rfl (by decide) rfl rfl rfl ?_
      refine mx_goto (n := 28) (mx_da t_X10_longestStay 55 rfl) rfl ?_
      exact h
    · have h := h.2 (mx_bn.mp g9)
      refine mx_aload_n 0 (mx_da t_X10_longestStay 39 rfl) rfl rfl rfl rfl ?_
      refine mx_getR 44 fs_RX10_65 rfl (tp_s T 1 rfl) (tp_r T 42 rfl) (mx_da t_X10_longestStay 40 rfl) rfl ?_
      refine mx_iload_n 3 (mx_da t_X10_longestStay 41 rfl) rfl rfl rfl ?_
      refine mx_aload_n 0 (mx_da t_X10_longestStay 42 rfl) rfl rfl rfl rfl ?_
      refine mx_getR 44 fs_RX10_65 rfl (tp_s T 1 rfl) (tp_r T 42 rfl) (mx_da t_X10_longestStay 43 rfl) rfl ?_
      refine mx_iload_n 3 (mx_da t_X10_longestStay 44 rfl) rfl rfl rfl ?_
      refine mx_iald (tp_s T 44 rfl) h.1 (mx_da t_X10_longestStay 45 rfl) rfl ?_
      have h := h.2
      refine mx_aload_n 0 (mx_da t_X10_longestStay 46 rfl) rfl rfl rfl rfl ?_
      refine mx_getR 44 fs_RX10_65 rfl (tp_s T 1 rfl) (tp_r T 42 rfl) (mx_da t_X10_longestStay 47 rfl) rfl ?_
      refine mx_iload 4 (mx_da t_X10_longestStay 48 rfl) rfl rfl ?_
      refine mx_iald (tp_s T 44 rfl) h.1 (mx_da t_X10_longestStay 49 rfl) rfl ?_
      have h := h.2
      refine mx_iconst (v := 1) (mx_da t_X10_longestStay 50 rfl) rfl rfl ?_
      refine mx_iadd (mx_da t_X10_longestStay 51 rfl) rfl ?_
      refine mx_callS yJ9_max_7cf53 m_J9_max_7cf53 [.int (mx_I M3 44 v3.toNatClampNeg), .int ((mx_I M3 44 v4.toNatClampNeg) + 1)] mm_J9_max_7cf53 ml_RX10_216 st_J9_max_7cf53 rfl (Nat.le_of_ble_eq_true rfl) (mx_da t_X10_longestStay 52 rfl) rfl (Nat.le_of_ble_eq_true rfl) rfl ?_
      refine mx_mono h ?_
      intro o M5 ho
      obtain ⟨e1, e2, ho⟩ := ho
      obtain ⟨x6, rfl, h⟩ := ho
      refine ⟨e1, ?_⟩
      have T := tp_of e1 e2 T
      have ht0 := (congrFun (congrFun e2 1) 10).trans ht0
      clear e1 e2
      show mx_W m_X10_longestStay (d + 1) 93 [.ref 1, .int v1, .int v2, .int v3, .int v4] [.int x6, .int v3, .ref 44] M5 Q
      refine mx_iast (tp_s T 44 rfl) h.1 (mx_da t_X10_longestStay 53 rfl) rfl ?_
      have h := h.2
      refine mx_gen (mx_setI M5 44 (v3.toNatClampNeg) x6) (fun M7 e9 => ?_)
      have h := h _ e9
      have T : mx_Tp M7 := tp_e e9 T
      have ht0 : mx_R M7 1 10 = t := rr_e e9 ht0
      refine mx_iinc 4 (v := v4 + 1) [.ref 1, .int v1, .int v2, .int v3, .int (v4 + 1)] (mx_da t_X10_longestStay 54 rfl) rfl (by decide) rfl rfl rfl ?_
      refine mx_goto (n := 28) (mx_da t_X10_longestStay 55 rfl) rfl ?_
      exact h
set_option maxHeartbeats 1000000 in
theorem x_X10_stays_0 {d : Nat} {M : mx_M} {Q : mx_O → mx_M → Prop} (T : mx_Tp M) (t : Nat) (ht : mx_Cat t) (ht0 : mx_R M 1 10 = t) (v1 : Int32)
    (h : ((v1 < 0 → (1 ≤ (mx_rm M).1 ∧ 6 ≤ (mx_rm M).2 ∧ Q (.inr "java/util/NoSuchElementException") (mx_thM M))) ∧ (¬ v1 < 0 → ((v1 < (mx_I M 1 11) → (vp_in v1 10 ∧ Q (.inl (some (.int (mx_I M 43 v1.toNatClampNeg)))) M)) ∧ (¬ v1 < (mx_I M 1 11) → (1 ≤ (mx_rm M).1 ∧ 6 ≤ (mx_rm M).2 ∧ Q (.inr "java/util/NoSuchElementException") (mx_thM M))))))) :
    mx_W m_X10_stays d 0 [.ref 1, .int v1] [] M Q := by
  refine mx_iload_n 1 (mx_da t_X10_stays 0 rfl) rfl rfl rfl ?_
  refine mx_if_lt 12 (mx_da t_X10_stays 1 rfl) rfl rfl (fun g9 => ?_) (fun g9 => ?_)
  · have h := h.1 g9
    exact mx_thrN 25 155 330 3 rfl (by decide) rfl cl_155 in_NSE (mx_da t_X10_stays 6 rfl) (mx_da t_X10_stays 7 rfl) (Or.inr ⟨rfl, (mx_da t_X10_stays 8 rfl)⟩) (mx_da t_X10_stays 9 rfl) (mx_da t_X10_stays 10 rfl) rfl (by decide) h.1 h.2.1 h.2.2
  · have h := h.2 g9
    refine mx_iload_n 1 (mx_da t_X10_stays 2 rfl) rfl rfl rfl ?_
    refine mx_aload_n 0 (mx_da t_X10_stays 3 rfl) rfl rfl rfl rfl ?_
    refine mx_getI fs_RX10_75 rfl (tp_s T 1 rfl) (mx_da t_X10_stays 4 rfl) rfl ?_
    refine mx_icmp_lt 23 (mx_da t_X10_stays 5 rfl) rfl rfl (fun g9 => ?_) (fun g9 => ?_)
    · have h := h.1 g9
      refine mx_aload_n 0 (mx_da t_X10_stays 11 rfl) rfl rfl rfl rfl ?_
      refine mx_getR 43 fs_RX10_61 rfl (tp_s T 1 rfl) (tp_r T 41 rfl) (mx_da t_X10_stays 12 rfl) rfl ?_
      refine mx_iload_n 1 (mx_da t_X10_stays 13 rfl) rfl rfl rfl ?_
      refine mx_iald (tp_s T 43 rfl) h.1 (mx_da t_X10_stays 14 rfl) rfl ?_
      have h := h.2
      exact mx_iret rfl (mx_da t_X10_stays 15 rfl) h
    · have h := h.2 g9
      exact mx_thrN 25 155 330 3 rfl (by decide) rfl cl_155 in_NSE (mx_da t_X10_stays 6 rfl) (mx_da t_X10_stays 7 rfl) (Or.inr ⟨rfl, (mx_da t_X10_stays 8 rfl)⟩) (mx_da t_X10_stays 9 rfl) (mx_da t_X10_stays 10 rfl) rfl (by decide) h.1 h.2.1 h.2.2
set_option maxHeartbeats 1000000 in
theorem x_X10_off_0 {d : Nat} {M : mx_M} {Q : mx_O → mx_M → Prop} (T : mx_Tp M) (t : Nat) (ht : mx_Cat t) (ht0 : mx_R M 1 10 = t) (v1 : Int32) (v2 : Int32)
    (h : (mx_W m_X10_needClerk d 0 [.ref 1, .int v1] [] M (fun o M1 => mx_sh M1 = mx_sh M ∧ mx_R M1 = mx_R M ∧ ((o = .inl none ∧ (mx_W m_X10_needCard d 0 [.ref 1, .int v2] [] M1 (fun o M2 => mx_sh M2 = mx_sh M1 ∧ mx_R M2 = mx_R M1 ∧ ((o = .inl none ∧ (mx_W m_X5_placeOf d 0 [.ref 31, .int v2, .retAddr 0] [] M2 (fun o M3 => mx_sh M3 = mx_sh M2 ∧ mx_R M3 = mx_R M2 ∧ (∃ x4 : Int32, o = .inl (some (.int x4)) ∧ ((¬ x4 = (-1 : Int32) → (mx_W m_X5_countAhead d 0 [.ref 31, .ref 24, .int v1, .int v2, .retAddr 0, .retAddr 0] [] M3 (fun o M5 => mx_sh M5 = mx_sh M3 ∧ mx_R M5 = mx_R M3 ∧ (∃ x6 : Int32, o = .inl (some (.int x6)) ∧ Q (.inl (some (.int (x4 - x6)))) M5)))) ∧ (x4 = (-1 : Int32) → Q (.inl (some (.int (-99)))) M3)))))) ∨ ∃ E, o = .inr E ∧ Q (.inr E) M2)))) ∨ ∃ E, o = .inr E ∧ Q (.inr E) M1)))) :
    mx_W m_X10_off (d + 1) 0 [.ref 1, .int v1, .int v2, .retAddr 0] [] M Q := by
  refine mx_aload_n 0 (mx_da t_X10_off 0 rfl) rfl rfl rfl rfl ?_
  refine mx_iload_n 1 (mx_da t_X10_off 1 rfl) rfl rfl rfl ?_
  refine mx_callV yX10_needClerk m_X10_needClerk [.int v1] mm_X10_needClerk ml_RX10_184 im_X10_needClerk se_X10_needClerk (tp_s T 1 rfl) rfl rfl (Nat.le_of_ble_eq_true rfl) (mx_da t_X10_off 2 rfl) rfl (Nat.le_of_ble_eq_true rfl) rfl ?_
  refine mx_mono h ?_
  intro o M1 ho
  obtain ⟨e1, e2, ho⟩ := ho
  rcases ho with ⟨rfl, h⟩ | ⟨E, rfl, h⟩
  rotate_left
  · exact ⟨e1, h⟩
  refine ⟨e1, ?_⟩
  have T := tp_of e1 e2 T
  have ht0 := (congrFun (congrFun e2 1) 10).trans ht0
  clear e1 e2
  show mx_W m_X10_off (d + 1) 5 [.ref 1, .int v1, .int v2, .retAddr 0] [] M1 Q
  refine mx_aload_n 0 (mx_da t_X10_off 3 rfl) rfl rfl rfl rfl ?_
  refine mx_iload_n 2 (mx_da t_X10_off 4 rfl) rfl rfl rfl ?_
  refine mx_callV yX10_needCard m_X10_needCard [.int v2] mm_X10_needCard ml_RX10_160 im_X10_needCard se_X10_needCard (tp_s T 1 rfl) rfl rfl (Nat.le_of_ble_eq_true rfl) (mx_da t_X10_off 5 rfl) rfl (Nat.le_of_ble_eq_true rfl) rfl ?_
  refine mx_mono h ?_
  intro o M2 ho
  obtain ⟨e1, e2, ho⟩ := ho
  rcases ho with ⟨rfl, h⟩ | ⟨E, rfl, h⟩
  rotate_left
  · exact ⟨e1, h⟩
  refine ⟨e1, ?_⟩
  have T := tp_of e1 e2 T
  have ht0 := (congrFun (congrFun e2 1) 10).trans ht0
  clear e1 e2
  show mx_W m_X10_off (d + 1) 10 [.ref 1, .int v1, .int v2, .retAddr 0] [] M2 Q
  refine mx_aload_n 0 (mx_da t_X10_off 6 rfl) rfl rfl rfl rfl ?_
  refine mx_getR 31 fs_RX10_37 rfl (tp_s T 1 rfl) (tp_r T 30 rfl) (mx_da t_X10_off 7 rfl) rfl ?_
  refine mx_iload_n 2 (mx_da t_X10_off 8 rfl) rfl rfl rfl ?_
  refine mx_callV yX5_placeOf m_X5_placeOf [.int v2] mm_X5_placeOf ml_RX10_172 im_X5_placeOf se_X5_placeOf (tp_s T 31 rfl) rfl rfl (Nat.le_of_ble_eq_true rfl) (mx_da t_X10_off 9 rfl) rfl (Nat.le_of_ble_eq_true rfl) rfl ?_
  refine mx_mono h ?_
  intro o M3 ho
  obtain ⟨e1, e2, ho⟩ := ho
  obtain ⟨x4, rfl, h⟩ := ho
  refine ⟨e1, ?_⟩
  have T := tp_of e1 e2 T
  have ht0 := (congrFun (congrFun e2 1) 10).trans ht0
  clear e1 e2
  show mx_W m_X10_off (d + 1) 18 [.ref 1, .int v1, .int v2, .retAddr 0] [.int x4] M3 Q
  refine mx_istore_n 3 [.ref 1, .int v1, .int v2, .int x4] (mx_da t_X10_off 10 rfl) rfl rfl (by decide) rfl ?_
  refine mx_iload_n 3 (mx_da t_X10_off 11 rfl) rfl rfl rfl ?_
  refine mx_iconst (v := (-1)) (mx_da t_X10_off 12 rfl) rfl rfl ?_
  refine mx_icmp_ne 29 (mx_da t_X10_off 13 rfl) rfl rfl (fun g9 => ?_) (fun g9 => ?_)
  · have h := h.1 g9
    refine mx_iload_n 3 (mx_da t_X10_off 16 rfl) rfl rfl rfl ?_
    refine mx_aload_n 0 (mx_da t_X10_off 17 rfl) rfl rfl rfl rfl ?_
    refine mx_getR 31 fs_RX10_37 rfl (tp_s T 1 rfl) (tp_r T 30 rfl) (mx_da t_X10_off 18 rfl) rfl ?_
    refine mx_aload_n 0 (mx_da t_X10_off 19 rfl) rfl rfl rfl rfl ?_
    refine mx_getR 24 fs_RX10_30 rfl (tp_s T 1 rfl) (tp_r T 28 rfl) (mx_da t_X10_off 20 rfl) rfl ?_
    refine mx_iload_n 1 (mx_da t_X10_off 21 rfl) rfl rfl rfl ?_
    refine mx_iload_n 2 (mx_da t_X10_off 22 rfl) rfl rfl rfl ?_
    refine mx_callV yX5_countAhead m_X5_countAhead [.ref 24, .int v1, .int v2] mm_X5_countAhead ml_RX10_332 im_X5_countAhead se_X5_countAhead (tp_s T 31 rfl) rfl rfl (Nat.le_of_ble_eq_true rfl) (mx_da t_X10_off 23 rfl) rfl (Nat.le_of_ble_eq_true rfl) rfl ?_
    refine mx_mono h ?_
    intro o M5 ho
    obtain ⟨e1, e2, ho⟩ := ho
    obtain ⟨x6, rfl, h⟩ := ho
    refine ⟨e1, ?_⟩
    have T := tp_of e1 e2 T
    have ht0 := (congrFun (congrFun e2 1) 10).trans ht0
    clear e1 e2
    show mx_W m_X10_off (d + 1) 43 [.ref 1, .int v1, .int v2, .int x4] [.int x6, .int x4] M5 Q
    refine mx_isub (mx_da t_X10_off 24 rfl) rfl ?_
    exact mx_iret rfl (mx_da t_X10_off 25 rfl) h
  · have h := h.2 g9
    refine mx_bipush (v := (-99)) (mx_da t_X10_off 14 rfl) rfl rfl ?_
    refine mx_goto (n := 44) (mx_da t_X10_off 15 rfl) rfl ?_
    exact mx_iret rfl (mx_da t_X10_off 25 rfl) h
set_option maxHeartbeats 1000000 in
theorem x_X10_worst_0 {d : Nat} {M : mx_M} {Q : mx_O → mx_M → Prop} (T : mx_Tp M) (t : Nat) (ht : mx_Cat t) (ht0 : mx_R M 1 10 = t) (v1 : Int32) (v2 : Int32)
    (h : (mx_W m_X10_needClerk d 0 [.ref 1, .int v1] [] M (fun o M1 => mx_sh M1 = mx_sh M ∧ mx_R M1 = mx_R M ∧ ((o = .inl none ∧ (mx_W m_X10_needZeroOrOne d 0 [.int v2] [] M1 (fun o M2 => mx_sh M2 = mx_sh M1 ∧ mx_R M2 = mx_R M1 ∧ ((o = .inl none ∧ mx_W m_X10_worst (d + 1) 17 [.ref 1, .int v1, .int v2, .int 0, .int (-1), .int 0, .retAddr 0] [] M2 Q) ∨ ∃ E, o = .inr E ∧ Q (.inr E) M2)))) ∨ ∃ E, o = .inr E ∧ Q (.inr E) M1)))) :
    mx_W m_X10_worst (d + 1) 0 [.ref 1, .int v1, .int v2, .retAddr 0, .retAddr 0, .retAddr 0, .retAddr 0] [] M Q := by
  refine mx_aload_n 0 (mx_da t_X10_worst 0 rfl) rfl rfl rfl rfl ?_
  refine mx_iload_n 1 (mx_da t_X10_worst 1 rfl) rfl rfl rfl ?_
  refine mx_callV yX10_needClerk m_X10_needClerk [.int v1] mm_X10_needClerk ml_RX10_184 im_X10_needClerk se_X10_needClerk (tp_s T 1 rfl) rfl rfl (Nat.le_of_ble_eq_true rfl) (mx_da t_X10_worst 2 rfl) rfl (Nat.le_of_ble_eq_true rfl) rfl ?_
  refine mx_mono h ?_
  intro o M1 ho
  obtain ⟨e1, e2, ho⟩ := ho
  rcases ho with ⟨rfl, h⟩ | ⟨E, rfl, h⟩
  rotate_left
  · exact ⟨e1, h⟩
  refine ⟨e1, ?_⟩
  have T := tp_of e1 e2 T
  have ht0 := (congrFun (congrFun e2 1) 10).trans ht0
  clear e1 e2
  show mx_W m_X10_worst (d + 1) 5 [.ref 1, .int v1, .int v2, .retAddr 0, .retAddr 0, .retAddr 0, .retAddr 0] [] M1 Q
  refine mx_iload_n 2 (mx_da t_X10_worst 3 rfl) rfl rfl rfl ?_
  refine mx_callS yX10_needZeroOrOne m_X10_needZeroOrOne [.int v2] mm_X10_needZeroOrOne ml_RX10_287 st_X10_needZeroOrOne rfl (Nat.le_of_ble_eq_true rfl) (mx_da t_X10_worst 4 rfl) rfl (Nat.le_of_ble_eq_true rfl) rfl ?_
  refine mx_mono h ?_
  intro o M2 ho
  obtain ⟨e1, e2, ho⟩ := ho
  rcases ho with ⟨rfl, h⟩ | ⟨E, rfl, h⟩
  rotate_left
  · exact ⟨e1, h⟩
  refine ⟨e1, ?_⟩
  have T := tp_of e1 e2 T
  have ht0 := (congrFun (congrFun e2 1) 10).trans ht0
  clear e1 e2
  show mx_W m_X10_worst (d + 1) 9 [.ref 1, .int v1, .int v2, .retAddr 0, .retAddr 0, .retAddr 0, .retAddr 0] [] M2 Q
  refine mx_iconst (v := 0) (mx_da t_X10_worst 5 rfl) rfl rfl ?_
  refine mx_istore_n 3 [.ref 1, .int v1, .int v2, .int 0, .retAddr 0, .retAddr 0, .retAddr 0] (mx_da t_X10_worst 6 rfl) rfl rfl (by decide) rfl ?_
  refine mx_iconst (v := (-1)) (mx_da t_X10_worst 7 rfl) rfl rfl ?_
  refine mx_istore 4 [.ref 1, .int v1, .int v2, .int 0, .int (-1), .retAddr 0, .retAddr 0] (mx_da t_X10_worst 8 rfl) rfl (by decide) rfl ?_
  refine mx_iconst (v := 0) (mx_da t_X10_worst 9 rfl) rfl rfl ?_
  refine mx_istore 5 [.ref 1, .int v1, .int v2, .int 0, .int (-1), .int 0, .retAddr 0] (mx_da t_X10_worst 10 rfl) rfl (by decide) rfl ?_
  exact h
set_option maxHeartbeats 1000000 in
theorem x_X10_worst_17 {d : Nat} {M : mx_M} {Q : mx_O → mx_M → Prop} (T : mx_Tp M) (t : Nat) (ht : mx_Cat t) (ht0 : mx_R M 1 10 = t) (v1 : Int32) (v2 : Int32) (v3 : Int32) (v4 : Int32) (v5 : Int32)
    (h : (((mx_I M t 12) ≤ v5 → Q (.inl (some (.int v4))) M) ∧ (¬ (mx_I M t 12) ≤ v5 → (mx_W m_X5_placeOf d 0 [.ref 31, .int v5, .retAddr 0] [] M (fun o M1 => mx_sh M1 = mx_sh M ∧ mx_R M1 = mx_R M ∧ (∃ x2 : Int32, o = .inl (some (.int x2)) ∧ ((x2 = (-1 : Int32) → mx_W m_X10_worst (d + 1) 17 [.ref 1, .int v1, .int v2, .int v3, .int v4, .int (v5 + 1), .retAddr 0] [] M1 Q) ∧ (¬ x2 = (-1 : Int32) → ((¬ v2 = 0 → (mx_W m_X5_looksFor d 0 [.ref 31, .ref 24, .int v1, .int v5] [] M1 (fun o M3 => mx_sh M3 = mx_sh M1 ∧ mx_R M3 = mx_R M1 ∧ (∃ x4 : Int32, o = .inl (some (.int x4)) ∧ ((x4 ≤ v3 → mx_W m_X10_worst (d + 1) 17 [.ref 1, .int v1, .int v2, .int v3, .int v4, .int (v5 + 1), .retAddr 0] [] M3 Q) ∧ (¬ x4 ≤ v3 → mx_W m_X10_worst (d + 1) 17 [.ref 1, .int v1, .int v2, .int x4, .int v5, .int (v5 + 1), .retAddr 0] [] M3 Q)))))) ∧ (v2 = 0 → (mx_W m_X5_wrongWith d 0 [.ref 31, .ref 24, .int v1, .int v5, .retAddr 0, .retAddr 0, .retAddr 0] [] M1 (fun o M5 => mx_sh M5 = mx_sh M1 ∧ mx_R M5 = mx_R M1 ∧ (∃ x6 : Int32, o = .inl (some (.int x6)) ∧ ((x6 ≤ v3 → mx_W m_X10_worst (d + 1) 17 [.ref 1, .int v1, .int v2, .int v3, .int v4, .int (v5 + 1), .retAddr 0] [] M5 Q) ∧ (¬ x6 ≤ v3 → mx_W m_X10_worst (d + 1) 17 [.ref 1, .int v1, .int v2, .int x6, .int v5, .int (v5 + 1), .retAddr 0] [] M5 Q))))))))))))))) :
    mx_W m_X10_worst (d + 1) 17 [.ref 1, .int v1, .int v2, .int v3, .int v4, .int v5, .retAddr 0] [] M Q := by
  refine mx_iload 5 (mx_da t_X10_worst 11 rfl) rfl rfl ?_
  refine mx_aload_n 0 (mx_da t_X10_worst 12 rfl) rfl rfl rfl rfl ?_
  refine mx_getR t fs_RX10_71 rfl (tp_s T 1 rfl) ht0 (mx_da t_X10_worst 13 rfl) rfl ?_
  refine mx_getI fs_RX10_148 rfl (cat_s T ht) (mx_da t_X10_worst 14 rfl) rfl ?_
  refine mx_icmp_ge 98 (mx_da t_X10_worst 15 rfl) rfl rfl (fun g9 => ?_) (fun g9 => ?_)
  · have h := h.1 g9
    refine mx_iload 4 (mx_da t_X10_worst 49 rfl) rfl rfl ?_
    exact mx_iret rfl (mx_da t_X10_worst 50 rfl) h
  · have h := h.2 g9
    refine mx_aload_n 0 (mx_da t_X10_worst 16 rfl) rfl rfl rfl rfl ?_
    refine mx_getR 31 fs_RX10_37 rfl (tp_s T 1 rfl) (tp_r T 30 rfl) (mx_da t_X10_worst 17 rfl) rfl ?_
    refine mx_iload 5 (mx_da t_X10_worst 18 rfl) rfl rfl ?_
    refine mx_callV yX5_placeOf m_X5_placeOf [.int v5] mm_X5_placeOf ml_RX10_172 im_X5_placeOf se_X5_placeOf (tp_s T 31 rfl) rfl rfl (Nat.le_of_ble_eq_true rfl) (mx_da t_X10_worst 19 rfl) rfl (Nat.le_of_ble_eq_true rfl) rfl ?_
    refine mx_mono h ?_
    intro o M1 ho
    obtain ⟨e1, e2, ho⟩ := ho
    obtain ⟨x2, rfl, h⟩ := ho
    refine ⟨e1, ?_⟩
    have T := tp_of e1 e2 T
    have ht0 := (congrFun (congrFun e2 1) 10).trans ht0
    clear e1 e2
    show mx_W m_X10_worst (d + 1) 38 [.ref 1, .int v1, .int v2, .int v3, .int v4, .int v5, .retAddr 0] [.int x2] M1 Q
    refine mx_iconst (v := (-1)) (mx_da t_X10_worst 20 rfl) rfl rfl ?_
    refine mx_icmp_eq 92 (mx_da t_X10_worst 21 rfl) rfl rfl (fun g9 => ?_) (fun g9 => ?_)
    · have h := h.1 g9
      refine mx_iinc 5 (v := v5 + 1) [.ref 1, .int v1, .int v2, .int v3, .int v4, .int (v5 + 1), .retAddr 0] (mx_da t_X10_worst 47 rfl) rfl (by decide) rfl rfl rfl ?_
      refine mx_goto (n := 17) (mx_da t_X10_worst 48 rfl) rfl ?_
      exact h
    · have h := h.2 g9
      refine mx_iload_n 2 (mx_da t_X10_worst 22 rfl) rfl rfl rfl ?_
      refine mx_if_ne 63 (mx_da t_X10_worst 23 rfl) rfl rfl (fun g9 => ?_) (fun g9 => ?_)
      · have h := h.1 g9
        refine mx_aload_n 0 (mx_da t_X10_worst 32 rfl) rfl rfl rfl rfl ?_
        refine mx_getR 31 fs_RX10_37 rfl (tp_s T 1 rfl) (tp_r T 30 rfl) (mx_da t_X10_worst 33 rfl) rfl ?_
        refine mx_aload_n 0 (mx_da t_X10_worst 34 rfl) rfl rfl rfl rfl ?_
        refine mx_getR 24 fs_RX10_30 rfl (tp_s T 1 rfl) (tp_r T 28 rfl) (mx_da t_X10_worst 35 rfl) rfl ?_
        refine mx_iload_n 1 (mx_da t_X10_worst 36 rfl) rfl rfl rfl ?_
        refine mx_iload 5 (mx_da t_X10_worst 37 rfl) rfl rfl ?_
        refine mx_callV yX5_looksFor m_X5_looksFor [.ref 24, .int v1, .int v5] mm_X5_looksFor ml_RX10_212 im_X5_looksFor se_X5_looksFor (tp_s T 31 rfl) rfl rfl (Nat.le_of_ble_eq_true rfl) (mx_da t_X10_worst 38 rfl) rfl (Nat.le_of_ble_eq_true rfl) rfl ?_
        refine mx_mono h ?_
        intro o M3 ho
        obtain ⟨e1, e2, ho⟩ := ho
        obtain ⟨x4, rfl, h⟩ := ho
        refine ⟨e1, ?_⟩
        have T := tp_of e1 e2 T
        have ht0 := (congrFun (congrFun e2 1) 10).trans ht0
        clear e1 e2
        show mx_W m_X10_worst (d + 1) 77 [.ref 1, .int v1, .int v2, .int v3, .int v4, .int v5, .retAddr 0] [.int x4] M3 Q
        refine mx_istore 6 [.ref 1, .int v1, .int v2, .int v3, .int v4, .int v5, .int x4] (mx_da t_X10_worst 39 rfl) rfl (by decide) rfl ?_
        refine mx_iload 6 (mx_da t_X10_worst 40 rfl) rfl rfl ?_
        refine mx_iload_n 3 (mx_da t_X10_worst 41 rfl) rfl rfl rfl ?_
        refine mx_icmp_le 92 (mx_da t_X10_worst 42 rfl) rfl rfl (fun g9 => ?_) (fun g9 => ?_)
        · have h := h.1 g9
          refine mx_iinc 5 (v := v5 + 1) [.ref 1, .int v1, .int v2, .int v3, .int v4, .int (v5 + 1), .int x4] (mx_da t_X10_worst 47 rfl) rfl (by decide) rfl rfl rfl ?_
          refine mx_goto (n := 17) (mx_da t_X10_worst 48 rfl) rfl ?_
          exact mx_wkn [.ref 1, .int v1, .int v2, .int v3, .int v4, .int (v5 + 1), .retAddr 0] ⟨Or.inr rfl, Or.inr rfl, Or.inr rfl, Or.inr rfl, Or.inr rfl, Or.inr rfl, Or.inl rfl, trivial⟩ h
        · have h := h.2 g9
          refine mx_iload 6 (mx_da t_X10_worst 43 rfl) rfl rfl ?_
          refine mx_istore_n 3 [.ref 1, .int v1, .int v2, .int x4, .int v4, .int v5, .int x4] (mx_da t_X10_worst 44 rfl) rfl rfl (by decide) rfl ?_
          refine mx_iload 5 (mx_da t_X10_worst 45 rfl) rfl rfl ?_
          refine mx_istore 4 [.ref 1, .int v1, .int v2, .int x4, .int v5, .int v5, .int x4] (mx_da t_X10_worst 46 rfl) rfl (by decide) rfl ?_
          refine mx_iinc 5 (v := v5 + 1) [.ref 1, .int v1, .int v2, .int x4, .int v5, .int (v5 + 1), .int x4] (mx_da t_X10_worst 47 rfl) rfl (by decide) rfl rfl rfl ?_
          refine mx_goto (n := 17) (mx_da t_X10_worst 48 rfl) rfl ?_
          exact mx_wkn [.ref 1, .int v1, .int v2, .int x4, .int v5, .int (v5 + 1), .retAddr 0] ⟨Or.inr rfl, Or.inr rfl, Or.inr rfl, Or.inr rfl, Or.inr rfl, Or.inr rfl, Or.inl rfl, trivial⟩ h
      · have h := h.2 g9
        refine mx_aload_n 0 (mx_da t_X10_worst 24 rfl) rfl rfl rfl rfl ?_
        refine mx_getR 31 fs_RX10_37 rfl (tp_s T 1 rfl) (tp_r T 30 rfl) (mx_da t_X10_worst 25 rfl) rfl ?_
        refine mx_aload_n 0 (mx_da t_X10_worst 26 rfl) rfl rfl rfl rfl ?_
        refine mx_getR 24 fs_RX10_30 rfl (tp_s T 1 rfl) (tp_r T 28 rfl) (mx_da t_X10_worst 27 rfl) rfl ?_
        refine mx_iload_n 1 (mx_da t_X10_worst 28 rfl) rfl rfl rfl ?_
        refine mx_iload 5 (mx_da t_X10_worst 29 rfl) rfl rfl ?_
        refine mx_callV yX5_wrongWith m_X5_wrongWith [.ref 24, .int v1, .int v5] mm_X5_wrongWith ml_RX10_335 im_X5_wrongWith se_X5_wrongWith (tp_s T 31 rfl) rfl rfl (Nat.le_of_ble_eq_true rfl) (mx_da t_X10_worst 30 rfl) rfl (Nat.le_of_ble_eq_true rfl) rfl ?_
        refine mx_mono h ?_
        intro o M5 ho
        obtain ⟨e1, e2, ho⟩ := ho
        obtain ⟨x6, rfl, h⟩ := ho
        refine ⟨e1, ?_⟩
        have T := tp_of e1 e2 T
        have ht0 := (congrFun (congrFun e2 1) 10).trans ht0
        clear e1 e2
        show mx_W m_X10_worst (d + 1) 60 [.ref 1, .int v1, .int v2, .int v3, .int v4, .int v5, .retAddr 0] [.int x6] M5 Q
        refine mx_goto (n := 77) (mx_da t_X10_worst 31 rfl) rfl ?_
        refine mx_istore 6 [.ref 1, .int v1, .int v2, .int v3, .int v4, .int v5, .int x6] (mx_da t_X10_worst 39 rfl) rfl (by decide) rfl ?_
        refine mx_iload 6 (mx_da t_X10_worst 40 rfl) rfl rfl ?_
        refine mx_iload_n 3 (mx_da t_X10_worst 41 rfl) rfl rfl rfl ?_
        refine mx_icmp_le 92 (mx_da t_X10_worst 42 rfl) rfl rfl (fun g9 => ?_) (fun g9 => ?_)
        · have h := h.1 g9
          refine mx_iinc 5 (v := v5 + 1) [.ref 1, .int v1, .int v2, .int v3, .int v4, .int (v5 + 1), .int x6] (mx_da t_X10_worst 47 rfl) rfl (by decide) rfl rfl rfl ?_
          refine mx_goto (n := 17) (mx_da t_X10_worst 48 rfl) rfl ?_
          exact mx_wkn [.ref 1, .int v1, .int v2, .int v3, .int v4, .int (v5 + 1), .retAddr 0] ⟨Or.inr rfl, Or.inr rfl, Or.inr rfl, Or.inr rfl, Or.inr rfl, Or.inr rfl, Or.inl rfl, trivial⟩ h
        · have h := h.2 g9
          refine mx_iload 6 (mx_da t_X10_worst 43 rfl) rfl rfl ?_
          refine mx_istore_n 3 [.ref 1, .int v1, .int v2, .int x6, .int v4, .int v5, .int x6] (mx_da t_X10_worst 44 rfl) rfl rfl (by decide) rfl ?_
          refine mx_iload 5 (mx_da t_X10_worst 45 rfl) rfl rfl ?_
          refine mx_istore 4 [.ref 1, .int v1, .int v2, .int x6, .int v5, .int v5, .int x6] (mx_da t_X10_worst 46 rfl) rfl (by decide) rfl ?_
          refine mx_iinc 5 (v := v5 + 1) [.ref 1, .int v1, .int v2, .int x6, .int v5, .int (v5 + 1), .int x6] (mx_da t_X10_worst 47 rfl) rfl (by decide) rfl rfl rfl ?_
          refine mx_goto (n := 17) (mx_da t_X10_worst 48 rfl) rfl ?_
          exact mx_wkn [.ref 1, .int v1, .int v2, .int x6, .int v5, .int (v5 + 1), .retAddr 0] ⟨Or.inr rfl, Or.inr rfl, Or.inr rfl, Or.inr rfl, Or.inr rfl, Or.inr rfl, Or.inl rfl, trivial⟩ h
set_option maxHeartbeats 1000000 in
theorem x_X10_trays_0 {d : Nat} {M : mx_M} {Q : mx_O → mx_M → Prop} (T : mx_Tp M) (t : Nat) (ht : mx_Cat t) (ht0 : mx_R M 1 10 = t) (v1 : Int32) (v2 : Int32) (v3 : Int32)
    (h : (mx_W m_X10_needClerk d 0 [.ref 1, .int v1] [] M (fun o M1 => mx_sh M1 = mx_sh M ∧ mx_R M1 = mx_R M ∧ ((o = .inl none ∧ ((v2 < (1 : Int32) → (1 ≤ (mx_rm M1).1 ∧ 6 ≤ (mx_rm M1).2 ∧ Q (.inr "java/lang/IllegalArgumentException") (mx_thM M1))) ∧ (¬ v2 < (1 : Int32) → ((v2 ≤ (10 : Int32) → (¬ v2 = 0 ∧ ((v3 < (-1 : Int32) → (1 ≤ (mx_rm M1).1 ∧ 6 ≤ (mx_rm M1).2 ∧ Q (.inr "java/util/NoSuchElementException") (mx_thM M1))) ∧ (¬ v3 < (-1 : Int32) → ((v3 < ((((mx_I M1 31 1) + v2) - 1 : Int32) / v2) → ((¬ v3 = (-1 : Int32) → ((¬ v3 = 0 → (mx_W m_X10_guide d 0 [.ref 1, .int v1, .int (v3 * v2)] [] M1 (fun o M2 => mx_sh M2 = mx_sh M1 ∧ mx_R M2 = mx_R M1 ∧ (∃ x3 : Int32, o = .inl (some (.int x3)) ∧ Q (.inl (some (.int x3))) M2)))) ∧ (v3 = 0 → Q (.inl (some (.int 0))) M1))) ∧ (v3 = (-1 : Int32) → Q (.inl (some (.int ((((mx_I M1 31 1) + v2) - 1 : Int32) / v2)))) M1))) ∧ (¬ v3 < ((((mx_I M1 31 1) + v2) - 1 : Int32) / v2) → (1 ≤ (mx_rm M1).1 ∧ 6 ≤ (mx_rm M1).2 ∧ Q (.inr "java/util/NoSuchElementException") (mx_thM M1)))))))) ∧ (¬ v2 ≤ (10 : Int32) → (1 ≤ (mx_rm M1).1 ∧ 6 ≤ (mx_rm M1).2 ∧ Q (.inr "java/lang/IllegalArgumentException") (mx_thM M1))))))) ∨ ∃ E, o = .inr E ∧ Q (.inr E) M1)))) :
    mx_W m_X10_trays (d + 1) 0 [.ref 1, .int v1, .int v2, .int v3, .retAddr 0] [] M Q := by
  refine mx_aload_n 0 (mx_da t_X10_trays 0 rfl) rfl rfl rfl rfl ?_
  refine mx_iload_n 1 (mx_da t_X10_trays 1 rfl) rfl rfl rfl ?_
  refine mx_callV yX10_needClerk m_X10_needClerk [.int v1] mm_X10_needClerk ml_RX10_184 im_X10_needClerk se_X10_needClerk (tp_s T 1 rfl) rfl rfl (Nat.le_of_ble_eq_true rfl) (mx_da t_X10_trays 2 rfl) rfl (Nat.le_of_ble_eq_true rfl) rfl ?_
  refine mx_mono h ?_
  intro o M1 ho
  obtain ⟨e1, e2, ho⟩ := ho
  rcases ho with ⟨rfl, h⟩ | ⟨E, rfl, h⟩
  rotate_left
  · exact ⟨e1, h⟩
  refine ⟨e1, ?_⟩
  have T := tp_of e1 e2 T
  have ht0 := (congrFun (congrFun e2 1) 10).trans ht0
  clear e1 e2
  show mx_W m_X10_trays (d + 1) 5 [.ref 1, .int v1, .int v2, .int v3, .retAddr 0] [] M1 Q
  refine mx_iload_n 2 (mx_da t_X10_trays 3 rfl) rfl rfl rfl ?_
  refine mx_iconst (v := 1) (mx_da t_X10_trays 4 rfl) rfl rfl ?_
  refine mx_icmp_lt 16 (mx_da t_X10_trays 5 rfl) rfl rfl (fun g9 => ?_) (fun g9 => ?_)
  · have h := h.1 g9
    exact mx_throwW "java/lang/IllegalArgumentException" 31 109 338 113 (by decide) rfl (by decide +kernel) cl_109 in_IAE th_113.1 th_113.2 (mx_da t_X10_trays 9 rfl) (mx_da t_X10_trays 10 rfl) (mx_da t_X10_trays 11 rfl) (mx_da t_X10_trays 12 rfl) (mx_da t_X10_trays 13 rfl) rfl (by decide) h.1 h.2.1 h.2.2
  · have h := h.2 g9
    refine mx_iload_n 2 (mx_da t_X10_trays 6 rfl) rfl rfl rfl ?_
    refine mx_bipush (v := 10) (mx_da t_X10_trays 7 rfl) rfl rfl ?_
    refine mx_icmp_le 27 (mx_da t_X10_trays 8 rfl) rfl rfl (fun g9 => ?_) (fun g9 => ?_)
    · have h := h.1 g9
      refine mx_aload_n 0 (mx_da t_X10_trays 14 rfl) rfl rfl rfl rfl ?_
      refine mx_getR 31 fs_RX10_37 rfl (tp_s T 1 rfl) (tp_r T 30 rfl) (mx_da t_X10_trays 15 rfl) rfl ?_
      refine mx_getI fs_RX10_144 rfl (tp_s T 31 rfl) (mx_da t_X10_trays 16 rfl) rfl ?_
      refine mx_iload_n 2 (mx_da t_X10_trays 17 rfl) rfl rfl rfl ?_
      refine mx_iadd (mx_da t_X10_trays 18 rfl) rfl ?_
      refine mx_iconst (v := 1) (mx_da t_X10_trays 19 rfl) rfl rfl ?_
      refine mx_isub (mx_da t_X10_trays 20 rfl) rfl ?_
      refine mx_iload_n 2 (mx_da t_X10_trays 21 rfl) rfl rfl rfl ?_
      refine mx_idiv (mx_da t_X10_trays 22 rfl) rfl h.1 ?_
      have h := h.2
      refine mx_istore 4 [.ref 1, .int v1, .int v2, .int v3, .int ((((mx_I M1 31 1) + v2) - 1 : Int32) / v2)] (mx_da t_X10_trays 23 rfl) rfl (by decide) rfl ?_
      refine mx_iload_n 3 (mx_da t_X10_trays 24 rfl) rfl rfl rfl ?_
      refine mx_iconst (v := (-1)) (mx_da t_X10_trays 25 rfl) rfl rfl ?_
      refine mx_icmp_lt 53 (mx_da t_X10_trays 26 rfl) rfl rfl (fun g9 => ?_) (fun g9 => ?_)
      · have h := h.1 g9
        exact mx_thrN 32 155 340 3 rfl (by decide) rfl cl_155 in_NSE (mx_da t_X10_trays 30 rfl) (mx_da t_X10_trays 31 rfl) (Or.inr ⟨rfl, (mx_da t_X10_trays 32 rfl)⟩) (mx_da t_X10_trays 33 rfl) (mx_da t_X10_trays 34 rfl) rfl (by decide) h.1 h.2.1 h.2.2
      · have h := h.2 g9
        refine mx_iload_n 3 (mx_da t_X10_trays 27 rfl) rfl rfl rfl ?_
        refine mx_iload 4 (mx_da t_X10_trays 28 rfl) rfl rfl ?_
        refine mx_icmp_lt 64 (mx_da t_X10_trays 29 rfl) rfl rfl (fun g9 => ?_) (fun g9 => ?_)
        · have h := h.1 g9
          refine mx_iload_n 3 (mx_da t_X10_trays 35 rfl) rfl rfl rfl ?_
          refine mx_iconst (v := (-1)) (mx_da t_X10_trays 36 rfl) rfl rfl ?_
          refine mx_icmp_ne 72 (mx_da t_X10_trays 37 rfl) rfl rfl (fun g9 => ?_) (fun g9 => ?_)
          · have h := h.1 g9
            refine mx_iload_n 3 (mx_da t_X10_trays 40 rfl) rfl rfl rfl ?_
            refine mx_if_ne 80 (mx_da t_X10_trays 41 rfl) rfl rfl (fun g9 => ?_) (fun g9 => ?_)
            · have h := h.1 g9
              refine mx_aload_n 0 (mx_da t_X10_trays 44 rfl) rfl rfl rfl rfl ?_
              refine mx_iload_n 1 (mx_da t_X10_trays 45 rfl) rfl rfl rfl ?_
              refine mx_iload_n 3 (mx_da t_X10_trays 46 rfl) rfl rfl rfl ?_
              refine mx_iload_n 2 (mx_da t_X10_trays 47 rfl) rfl rfl rfl ?_
              refine mx_imul (mx_da t_X10_trays 48 rfl) rfl ?_
              refine mx_callV yX10_guide m_X10_guide [.int v1, .int (v3 * v2)] mm_X10_guide ml_RX10_342 im_X10_guide se_X10_guide (tp_s T 1 rfl) rfl rfl (Nat.le_of_ble_eq_true rfl) (mx_da t_X10_trays 49 rfl) rfl (Nat.le_of_ble_eq_true rfl) rfl ?_
              refine mx_mono h ?_
              intro o M2 ho
              obtain ⟨e1, e2, ho⟩ := ho
              obtain ⟨x3, rfl, h⟩ := ho
              refine ⟨e1, ?_⟩
              have T := tp_of e1 e2 T
              have ht0 := (congrFun (congrFun e2 1) 10).trans ht0
              clear e1 e2
              show mx_W m_X10_trays (d + 1) 88 [.ref 1, .int v1, .int v2, .int v3, .int ((((mx_I M1 31 1) + v2) - 1 : Int32) / v2)] [.int x3] M2 Q
              exact mx_iret rfl (mx_da t_X10_trays 50 rfl) h
            · have h := h.2 g9
              refine mx_iconst (v := 0) (mx_da t_X10_trays 42 rfl) rfl rfl ?_
              refine mx_goto (n := 88) (mx_da t_X10_trays 43 rfl) rfl ?_
              exact mx_iret rfl (mx_da t_X10_trays 50 rfl) h
          · have h := h.2 g9
            refine mx_iload 4 (mx_da t_X10_trays 38 rfl) rfl rfl ?_
            exact mx_iret rfl (mx_da t_X10_trays 39 rfl) h
        · have h := h.2 g9
          exact mx_thrN 32 155 340 3 rfl (by decide) rfl cl_155 in_NSE (mx_da t_X10_trays 30 rfl) (mx_da t_X10_trays 31 rfl) (Or.inr ⟨rfl, (mx_da t_X10_trays 32 rfl)⟩) (mx_da t_X10_trays 33 rfl) (mx_da t_X10_trays 34 rfl) rfl (by decide) h.1 h.2.1 h.2.2
    · have h := h.2 g9
      exact mx_throwW "java/lang/IllegalArgumentException" 31 109 338 113 (by decide) rfl (by decide +kernel) cl_109 in_IAE th_113.1 th_113.2 (mx_da t_X10_trays 9 rfl) (mx_da t_X10_trays 10 rfl) (mx_da t_X10_trays 11 rfl) (mx_da t_X10_trays 12 rfl) (mx_da t_X10_trays 13 rfl) rfl (by decide) h.1 h.2.1 h.2.2
set_option maxHeartbeats 1000000 in
theorem x_X10_guide_0 {d : Nat} {M : mx_M} {Q : mx_O → mx_M → Prop} (T : mx_Tp M) (t : Nat) (ht : mx_Cat t) (ht0 : mx_R M 1 10 = t) (v1 : Int32) (v2 : Int32)
    (h : (mx_W m_X5_copy d 0 [.ref 33, .ref 31] [] M (fun o M1 => mx_sh M1 = mx_sh M ∧ mx_R M1 = mx_R M ∧ (o = .inl none ∧ (mx_W m_X5_sort d 0 [.ref 33, .ref 24, .int v1, .retAddr 0, .retAddr 0, .retAddr 0] [] M1 (fun o M2 => mx_sh M2 = mx_sh M1 ∧ mx_R M2 = mx_R M1 ∧ (o = .inl none ∧ ((v2 < (1 : Int32) → Q (.inl (some (.int 0))) M2) ∧ (¬ v2 < (1 : Int32) → ((v2 < (mx_I M2 33 1) → (vp_in v2 10 ∧ (vp_in (v2 - 1) 10 ∧ (mx_W m_X3_guideLength d 0 [.ref 24, .int v1, .int (mx_I M2 34 v2.toNatClampNeg), .int (mx_I M2 34 (v2 - 1).toNatClampNeg), .retAddr 0] [] M2 (fun o M3 => mx_sh M3 = mx_sh M2 ∧ mx_R M3 = mx_R M2 ∧ (∃ x4 : Int32, o = .inl (some (.int x4)) ∧ Q (.inl (some (.int x4))) M3)))))) ∧ (¬ v2 < (mx_I M2 33 1) → Q (.inl (some (.int 0))) M2))))))))))) :
    mx_W m_X10_guide (d + 1) 0 [.ref 1, .int v1, .int v2] [] M Q := by
  refine mx_aload_n 0 (mx_da t_X10_guide 0 rfl) rfl rfl rfl rfl ?_
  refine mx_getR 33 fs_RX10_41 rfl (tp_s T 1 rfl) (tp_r T 32 rfl) (mx_da t_X10_guide 1 rfl) rfl ?_
  refine mx_aload_n 0 (mx_da t_X10_guide 2 rfl) rfl rfl rfl rfl ?_
  refine mx_getR 31 fs_RX10_37 rfl (tp_s T 1 rfl) (tp_r T 30 rfl) (mx_da t_X10_guide 3 rfl) rfl ?_
  refine mx_callV yX5_copy m_X5_copy [.ref 31] mm_X5_copy ml_RX10_270 im_X5_copy se_X5_copy (tp_s T 33 rfl) rfl rfl (Nat.le_of_ble_eq_true rfl) (mx_da t_X10_guide 4 rfl) rfl (Nat.le_of_ble_eq_true rfl) rfl ?_
  refine mx_mono h ?_
  intro o M1 ho
  obtain ⟨e1, e2, ho⟩ := ho
  obtain ⟨rfl, h⟩ := ho
  refine ⟨e1, ?_⟩
  have T := tp_of e1 e2 T
  have ht0 := (congrFun (congrFun e2 1) 10).trans ht0
  clear e1 e2
  show mx_W m_X10_guide (d + 1) 11 [.ref 1, .int v1, .int v2] [] M1 Q
  refine mx_aload_n 0 (mx_da t_X10_guide 5 rfl) rfl rfl rfl rfl ?_
  refine mx_getR 33 fs_RX10_41 rfl (tp_s T 1 rfl) (tp_r T 32 rfl) (mx_da t_X10_guide 6 rfl) rfl ?_
  refine mx_aload_n 0 (mx_da t_X10_guide 7 rfl) rfl rfl rfl rfl ?_
  refine mx_getR 24 fs_RX10_30 rfl (tp_s T 1 rfl) (tp_r T 28 rfl) (mx_da t_X10_guide 8 rfl) rfl ?_
  refine mx_iload_n 1 (mx_da t_X10_guide 9 rfl) rfl rfl rfl ?_
  refine mx_callV yX5_sort m_X5_sort [.ref 24, .int v1] mm_X5_sort ml_RX10_274 im_X5_sort se_X5_sort (tp_s T 33 rfl) rfl rfl (Nat.le_of_ble_eq_true rfl) (mx_da t_X10_guide 10 rfl) rfl (Nat.le_of_ble_eq_true rfl) rfl ?_
  refine mx_mono h ?_
  intro o M2 ho
  obtain ⟨e1, e2, ho⟩ := ho
  obtain ⟨rfl, h⟩ := ho
  refine ⟨e1, ?_⟩
  have T := tp_of e1 e2 T
  have ht0 := (congrFun (congrFun e2 1) 10).trans ht0
  clear e1 e2
  show mx_W m_X10_guide (d + 1) 23 [.ref 1, .int v1, .int v2] [] M2 Q
  refine mx_iload_n 2 (mx_da t_X10_guide 11 rfl) rfl rfl rfl ?_
  refine mx_iconst (v := 1) (mx_da t_X10_guide 12 rfl) rfl rfl ?_
  refine mx_icmp_lt 39 (mx_da t_X10_guide 13 rfl) rfl rfl (fun g9 => ?_) (fun g9 => ?_)
  · have h := h.1 g9
    refine mx_iconst (v := 0) (mx_da t_X10_guide 19 rfl) rfl rfl ?_
    exact mx_iret rfl (mx_da t_X10_guide 20 rfl) h
  · have h := h.2 g9
    refine mx_iload_n 2 (mx_da t_X10_guide 14 rfl) rfl rfl rfl ?_
    refine mx_aload_n 0 (mx_da t_X10_guide 15 rfl) rfl rfl rfl rfl ?_
    refine mx_getR 33 fs_RX10_41 rfl (tp_s T 1 rfl) (tp_r T 32 rfl) (mx_da t_X10_guide 16 rfl) rfl ?_
    refine mx_getI fs_RX10_144 rfl (tp_s T 33 rfl) (mx_da t_X10_guide 17 rfl) rfl ?_
    refine mx_icmp_lt 41 (mx_da t_X10_guide 18 rfl) rfl rfl (fun g9 => ?_) (fun g9 => ?_)
    · have h := h.1 g9
      refine mx_aload_n 0 (mx_da t_X10_guide 21 rfl) rfl rfl rfl rfl ?_
      refine mx_getR 24 fs_RX10_30 rfl (tp_s T 1 rfl) (tp_r T 28 rfl) (mx_da t_X10_guide 22 rfl) rfl ?_
      refine mx_iload_n 1 (mx_da t_X10_guide 23 rfl) rfl rfl rfl ?_
      refine mx_aload_n 0 (mx_da t_X10_guide 24 rfl) rfl rfl rfl rfl ?_
      refine mx_getR 33 fs_RX10_41 rfl (tp_s T 1 rfl) (tp_r T 32 rfl) (mx_da t_X10_guide 25 rfl) rfl ?_
      refine mx_getR 34 fs_RX10_247 rfl (tp_s T 33 rfl) (tp_r T 31 rfl) (mx_da t_X10_guide 26 rfl) rfl ?_
      refine mx_iload_n 2 (mx_da t_X10_guide 27 rfl) rfl rfl rfl ?_
      refine mx_iald (tp_s T 34 rfl) h.1 (mx_da t_X10_guide 28 rfl) rfl ?_
      have h := h.2
      refine mx_aload_n 0 (mx_da t_X10_guide 29 rfl) rfl rfl rfl rfl ?_
      refine mx_getR 33 fs_RX10_41 rfl (tp_s T 1 rfl) (tp_r T 32 rfl) (mx_da t_X10_guide 30 rfl) rfl ?_
      refine mx_getR 34 fs_RX10_247 rfl (tp_s T 33 rfl) (tp_r T 31 rfl) (mx_da t_X10_guide 31 rfl) rfl ?_
      refine mx_iload_n 2 (mx_da t_X10_guide 32 rfl) rfl rfl rfl ?_
      refine mx_iconst (v := 1) (mx_da t_X10_guide 33 rfl) rfl rfl ?_
      refine mx_isub (mx_da t_X10_guide 34 rfl) rfl ?_
      refine mx_iald (tp_s T 34 rfl) h.1 (mx_da t_X10_guide 35 rfl) rfl ?_
      have h := h.2
      refine mx_callV yX3_guideLength m_X3_guideLength [.int v1, .int (mx_I M2 34 v2.toNatClampNeg), .int (mx_I M2 34 (v2 - 1).toNatClampNeg)] mm_X3_guideLength ml_RX10_345 im_X3_guideLength se_X3_guideLength (tp_s T 24 rfl) rfl rfl (Nat.le_of_ble_eq_true rfl) (mx_da t_X10_guide 36 rfl) rfl (Nat.le_of_ble_eq_true rfl) rfl ?_
      refine mx_mono h ?_
      intro o M3 ho
      obtain ⟨e1, e2, ho⟩ := ho
      obtain ⟨x4, rfl, h⟩ := ho
      refine ⟨e1, ?_⟩
      have T := tp_of e1 e2 T
      have ht0 := (congrFun (congrFun e2 1) 10).trans ht0
      clear e1 e2
      show mx_W m_X10_guide (d + 1) 69 [.ref 1, .int v1, .int v2] [.int x4] M3 Q
      exact mx_iret rfl (mx_da t_X10_guide 37 rfl) h
    · have h := h.2 g9
      refine mx_iconst (v := 0) (mx_da t_X10_guide 19 rfl) rfl rfl ?_
      exact mx_iret rfl (mx_da t_X10_guide 20 rfl) h
set_option maxHeartbeats 1000000 in
theorem x_X10_search_0 {d : Nat} {M : mx_M} {Q : mx_O → mx_M → Prop} (T : mx_Tp M) (t : Nat) (ht : mx_Cat t) (ht0 : mx_R M 1 10 = t) (v1 : Int32) (v2 : Int32) (v3 : Int32)
    (h : (mx_W m_X10_needClerk d 0 [.ref 1, .int v1] [] M (fun o M1 => mx_sh M1 = mx_sh M ∧ mx_R M1 = mx_R M ∧ ((o = .inl none ∧ (mx_W m_X10_needCard d 0 [.ref 1, .int v2] [] M1 (fun o M2 => mx_sh M2 = mx_sh M1 ∧ mx_R M2 = mx_R M1 ∧ ((o = .inl none ∧ (mx_W m_X10_needZeroOrOne d 0 [.int v3] [] M2 (fun o M3 => mx_sh M3 = mx_sh M2 ∧ mx_R M3 = mx_R M2 ∧ ((o = .inl none ∧ ((¬ v3 = 0 → (mx_W m_X5_finds d 0 [.ref 31, .ref 24, .int v1, .int v2] [] M3 (fun o M4 => mx_sh M4 = mx_sh M3 ∧ mx_R M4 = mx_R M3 ∧ (∃ x5 : Bool, o = .inl (some (.int (mx_b x5))) ∧ ((x5 = false → Q (.inl (some (.int 0))) M4) ∧ (x5 = true → Q (.inl (some (.int 1))) M4)))))) ∧ (v3 = 0 → (mx_W m_X5_looksFor d 0 [.ref 31, .ref 24, .int v1, .int v2] [] M3 (fun o M6 => mx_sh M6 = mx_sh M3 ∧ mx_R M6 = mx_R M3 ∧ (∃ x7 : Int32, o = .inl (some (.int x7)) ∧ Q (.inl (some (.int x7))) M6)))))) ∨ ∃ E, o = .inr E ∧ Q (.inr E) M3)))) ∨ ∃ E, o = .inr E ∧ Q (.inr E) M2)))) ∨ ∃ E, o = .inr E ∧ Q (.inr E) M1)))) :
    mx_W m_X10_search (d + 1) 0 [.ref 1, .int v1, .int v2, .int v3] [] M Q := by
  refine mx_aload_n 0 (mx_da t_X10_search 0 rfl) rfl rfl rfl rfl ?_
  refine mx_iload_n 1 (mx_da t_X10_search 1 rfl) rfl rfl rfl ?_
  refine mx_callV yX10_needClerk m_X10_needClerk [.int v1] mm_X10_needClerk ml_RX10_184 im_X10_needClerk se_X10_needClerk (tp_s T 1 rfl) rfl rfl (Nat.le_of_ble_eq_true rfl) (mx_da t_X10_search 2 rfl) rfl (Nat.le_of_ble_eq_true rfl) rfl ?_
  refine mx_mono h ?_
  intro o M1 ho
  obtain ⟨e1, e2, ho⟩ := ho
  rcases ho with ⟨rfl, h⟩ | ⟨E, rfl, h⟩
  rotate_left
  · exact ⟨e1, h⟩
  refine ⟨e1, ?_⟩
  have T := tp_of e1 e2 T
  have ht0 := (congrFun (congrFun e2 1) 10).trans ht0
  clear e1 e2
  show mx_W m_X10_search (d + 1) 5 [.ref 1, .int v1, .int v2, .int v3] [] M1 Q
  refine mx_aload_n 0 (mx_da t_X10_search 3 rfl) rfl rfl rfl rfl ?_
  refine mx_iload_n 2 (mx_da t_X10_search 4 rfl) rfl rfl rfl ?_
  refine mx_callV yX10_needCard m_X10_needCard [.int v2] mm_X10_needCard ml_RX10_160 im_X10_needCard se_X10_needCard (tp_s T 1 rfl) rfl rfl (Nat.le_of_ble_eq_true rfl) (mx_da t_X10_search 5 rfl) rfl (Nat.le_of_ble_eq_true rfl) rfl ?_
  refine mx_mono h ?_
  intro o M2 ho
  obtain ⟨e1, e2, ho⟩ := ho
  rcases ho with ⟨rfl, h⟩ | ⟨E, rfl, h⟩
  rotate_left
  · exact ⟨e1, h⟩
  refine ⟨e1, ?_⟩
  have T := tp_of e1 e2 T
  have ht0 := (congrFun (congrFun e2 1) 10).trans ht0
  clear e1 e2
  show mx_W m_X10_search (d + 1) 10 [.ref 1, .int v1, .int v2, .int v3] [] M2 Q
  refine mx_iload_n 3 (mx_da t_X10_search 6 rfl) rfl rfl rfl ?_
  refine mx_callS yX10_needZeroOrOne m_X10_needZeroOrOne [.int v3] mm_X10_needZeroOrOne ml_RX10_287 st_X10_needZeroOrOne rfl (Nat.le_of_ble_eq_true rfl) (mx_da t_X10_search 7 rfl) rfl (Nat.le_of_ble_eq_true rfl) rfl ?_
  refine mx_mono h ?_
  intro o M3 ho
  obtain ⟨e1, e2, ho⟩ := ho
  rcases ho with ⟨rfl, h⟩ | ⟨E, rfl, h⟩
  rotate_left
  · exact ⟨e1, h⟩
  refine ⟨e1, ?_⟩
  have T := tp_of e1 e2 T
  have ht0 := (congrFun (congrFun e2 1) 10).trans ht0
  clear e1 e2
  show mx_W m_X10_search (d + 1) 14 [.ref 1, .int v1, .int v2, .int v3] [] M3 Q
  refine mx_iload_n 3 (mx_da t_X10_search 8 rfl) rfl rfl rfl ?_
  refine mx_if_ne 32 (mx_da t_X10_search 9 rfl) rfl rfl (fun g9 => ?_) (fun g9 => ?_)
  · have h := h.1 g9
    refine mx_aload_n 0 (mx_da t_X10_search 18 rfl) rfl rfl rfl rfl ?_
    refine mx_getR 31 fs_RX10_37 rfl (tp_s T 1 rfl) (tp_r T 30 rfl) (mx_da t_X10_search 19 rfl) rfl ?_
    refine mx_aload_n 0 (mx_da t_X10_search 20 rfl) rfl rfl rfl rfl ?_
    refine mx_getR 24 fs_RX10_30 rfl (tp_s T 1 rfl) (tp_r T 28 rfl) (mx_da t_X10_search 21 rfl) rfl ?_
    refine mx_iload_n 1 (mx_da t_X10_search 22 rfl) rfl rfl rfl ?_
    refine mx_iload_n 2 (mx_da t_X10_search 23 rfl) rfl rfl rfl ?_
    refine mx_callV yX5_finds m_X5_finds [.ref 24, .int v1, .int v2] mm_X5_finds ml_RX10_348 im_X5_finds se_X5_finds (tp_s T 31 rfl) rfl rfl (Nat.le_of_ble_eq_true rfl) (mx_da t_X10_search 24 rfl) rfl (Nat.le_of_ble_eq_true rfl) rfl ?_
    refine mx_mono h ?_
    intro o M4 ho
    obtain ⟨e1, e2, ho⟩ := ho
    obtain ⟨x5, rfl, h⟩ := ho
    refine ⟨e1, ?_⟩
    have T := tp_of e1 e2 T
    have ht0 := (congrFun (congrFun e2 1) 10).trans ht0
    clear e1 e2
    show mx_W m_X10_search (d + 1) 45 [.ref 1, .int v1, .int v2, .int v3] [.int (mx_b x5)] M4 Q
    refine mx_if_eq 52 (mx_da t_X10_search 25 rfl) rfl rfl (fun g9 => ?_) (fun g9 => ?_)
    · have h := h.1 (mx_b0.mp g9)
      refine mx_iconst (v := 0) (mx_da t_X10_search 28 rfl) rfl rfl ?_
      exact mx_iret rfl (mx_da t_X10_search 29 rfl) h
    · have h := h.2 (mx_bn.mp g9)
      refine mx_iconst (v := 1) (mx_da t_X10_search 26 rfl) rfl rfl ?_
      refine mx_goto (n := 53) (mx_da t_X10_search 27 rfl) rfl ?_
      exact mx_iret rfl (mx_da t_X10_search 29 rfl) h
  · have h := h.2 g9
    refine mx_aload_n 0 (mx_da t_X10_search 10 rfl) rfl rfl rfl rfl ?_
    refine mx_getR 31 fs_RX10_37 rfl (tp_s T 1 rfl) (tp_r T 30 rfl) (mx_da t_X10_search 11 rfl) rfl ?_
    refine mx_aload_n 0 (mx_da t_X10_search 12 rfl) rfl rfl rfl rfl ?_
    refine mx_getR 24 fs_RX10_30 rfl (tp_s T 1 rfl) (tp_r T 28 rfl) (mx_da t_X10_search 13 rfl) rfl ?_
    refine mx_iload_n 1 (mx_da t_X10_search 14 rfl) rfl rfl rfl ?_
    refine mx_iload_n 2 (mx_da t_X10_search 15 rfl) rfl rfl rfl ?_
    refine mx_callV yX5_looksFor m_X5_looksFor [.ref 24, .int v1, .int v2] mm_X5_looksFor ml_RX10_212 im_X5_looksFor se_X5_looksFor (tp_s T 31 rfl) rfl rfl (Nat.le_of_ble_eq_true rfl) (mx_da t_X10_search 16 rfl) rfl (Nat.le_of_ble_eq_true rfl) rfl ?_
    refine mx_mono h ?_
    intro o M6 ho
    obtain ⟨e1, e2, ho⟩ := ho
    obtain ⟨x7, rfl, h⟩ := ho
    refine ⟨e1, ?_⟩
    have T := tp_of e1 e2 T
    have ht0 := (congrFun (congrFun e2 1) 10).trans ht0
    clear e1 e2
    show mx_W m_X10_search (d + 1) 31 [.ref 1, .int v1, .int v2, .int v3] [.int x7] M6 Q
    exact mx_iret rfl (mx_da t_X10_search 17 rfl) h
set_option maxHeartbeats 1000000 in
theorem x_X10_sees_0 {d : Nat} {M : mx_M} {Q : mx_O → mx_M → Prop} (T : mx_Tp M) (t : Nat) (ht : mx_Cat t) (ht0 : mx_R M 1 10 = t)
    (h : mx_W m_X10_sees (d + 1) 4 [.ref 1, .int 0, .int 0, .retAddr 0] [] M Q) :
    mx_W m_X10_sees (d + 1) 0 [.ref 1, .retAddr 0, .retAddr 0, .retAddr 0] [] M Q := by
  refine mx_iconst (v := 0) (mx_da t_X10_sees 0 rfl) rfl rfl ?_
  refine mx_istore_n 1 [.ref 1, .int 0, .retAddr 0, .retAddr 0] (mx_da t_X10_sees 1 rfl) rfl rfl (by decide) rfl ?_
  refine mx_iconst (v := 0) (mx_da t_X10_sees 2 rfl) rfl rfl ?_
  refine mx_istore_n 2 [.ref 1, .int 0, .int 0, .retAddr 0] (mx_da t_X10_sees 3 rfl) rfl rfl (by decide) rfl ?_
  exact h
set_option maxHeartbeats 1000000 in
theorem x_X10_sees_4 {d : Nat} {M : mx_M} {Q : mx_O → mx_M → Prop} (T : mx_Tp M) (t : Nat) (ht : mx_Cat t) (ht0 : mx_R M 1 10 = t) (v1 : Int32) (v2 : Int32)
    (h : (((mx_I M 31 1) ≤ v2 → Q (.inl (some (.int v1))) M) ∧ (¬ (mx_I M 31 1) ≤ v2 → mx_W m_X10_sees (d + 1) 17 [.ref 1, .int v1, .int v2, .int 0] [] M Q))) :
    mx_W m_X10_sees (d + 1) 4 [.ref 1, .int v1, .int v2, .retAddr 0] [] M Q := by
  refine mx_iload_n 2 (mx_da t_X10_sees 4 rfl) rfl rfl rfl ?_
  refine mx_aload_n 0 (mx_da t_X10_sees 5 rfl) rfl rfl rfl rfl ?_
  refine mx_getR 31 fs_RX10_37 rfl (tp_s T 1 rfl) (tp_r T 30 rfl) (mx_da t_X10_sees 6 rfl) rfl ?_
  refine mx_getI fs_RX10_144 rfl (tp_s T 31 rfl) (mx_da t_X10_sees 7 rfl) rfl ?_
  refine mx_icmp_ge 60 (mx_da t_X10_sees 8 rfl) rfl rfl (fun g9 => ?_) (fun g9 => ?_)
  · have h := h.1 g9
    refine mx_iload_n 1 (mx_da t_X10_sees 30 rfl) rfl rfl rfl ?_
    exact mx_iret rfl (mx_da t_X10_sees 31 rfl) h
  · have h := h.2 g9
    refine mx_iconst (v := 0) (mx_da t_X10_sees 9 rfl) rfl rfl ?_
    refine mx_istore_n 3 [.ref 1, .int v1, .int v2, .int 0] (mx_da t_X10_sees 10 rfl) rfl rfl (by decide) rfl ?_
    exact h
set_option maxHeartbeats 1000000 in
theorem x_X10_sees_17 {d : Nat} {M : mx_M} {Q : mx_O → mx_M → Prop} (T : mx_Tp M) (t : Nat) (ht : mx_Cat t) (ht0 : mx_R M 1 10 = t) (v1 : Int32) (v2 : Int32) (v3 : Int32)
    (h : (((mx_I M t 13) ≤ v3 → mx_W m_X10_sees (d + 1) 4 [.ref 1, .int v1, .int (v2 + 1), .retAddr 0] [] M Q) ∧ (¬ (mx_I M t 13) ≤ v3 → (vp_in v2 10 ∧ (mx_W m_X10_needsSeeCard d 0 [.ref 1, .int v3, .int (mx_I M 32 v2.toNatClampNeg), .retAddr 0] [] M (fun o M1 => mx_sh M1 = mx_sh M ∧ mx_R M1 = mx_R M ∧ (∃ x2 : Bool, o = .inl (some (.int (mx_b x2))) ∧ ((x2 = false → mx_W m_X10_sees (d + 1) 17 [.ref 1, .int v1, .int v2, .int (v3 + 1)] [] M1 Q) ∧ (x2 = true → mx_W m_X10_sees (d + 1) 17 [.ref 1, .int (v1 + 1), .int v2, .int (v3 + 1)] [] M1 Q))))))))) :
    mx_W m_X10_sees (d + 1) 17 [.ref 1, .int v1, .int v2, .int v3] [] M Q := by
  refine mx_iload_n 3 (mx_da t_X10_sees 11 rfl) rfl rfl rfl ?_
  refine mx_aload_n 0 (mx_da t_X10_sees 12 rfl) rfl rfl rfl rfl ?_
  refine mx_getR t fs_RX10_71 rfl (tp_s T 1 rfl) ht0 (mx_da t_X10_sees 13 rfl) rfl ?_
  refine mx_getI fs_RX10_130 rfl (cat_s T ht) (mx_da t_X10_sees 14 rfl) rfl ?_
  refine mx_icmp_ge 54 (mx_da t_X10_sees 15 rfl) rfl rfl (fun g9 => ?_) (fun g9 => ?_)
  · have h := h.1 g9
    refine mx_iinc 2 (v := v2 + 1) [.ref 1, .int v1, .int (v2 + 1), .int v3] (mx_da t_X10_sees 28 rfl) rfl (by decide) rfl rfl rfl ?_
    refine mx_goto (n := 4) (mx_da t_X10_sees 29 rfl) rfl ?_
    exact mx_wkn [.ref 1, .int v1, .int (v2 + 1), .retAddr 0] ⟨Or.inr rfl, Or.inr rfl, Or.inr rfl, Or.inl rfl, trivial⟩ h
  · have h := h.2 g9
    refine mx_aload_n 0 (mx_da t_X10_sees 16 rfl) rfl rfl rfl rfl ?_
    refine mx_iload_n 3 (mx_da t_X10_sees 17 rfl) rfl rfl rfl ?_
    refine mx_aload_n 0 (mx_da t_X10_sees 18 rfl) rfl rfl rfl rfl ?_
    refine mx_getR 31 fs_RX10_37 rfl (tp_s T 1 rfl) (tp_r T 30 rfl) (mx_da t_X10_sees 19 rfl) rfl ?_
    refine mx_getR 32 fs_RX10_247 rfl (tp_s T 31 rfl) (tp_r T 29 rfl) (mx_da t_X10_sees 20 rfl) rfl ?_
    refine mx_iload_n 2 (mx_da t_X10_sees 21 rfl) rfl rfl rfl ?_
    refine mx_iald (tp_s T 32 rfl) h.1 (mx_da t_X10_sees 22 rfl) rfl ?_
    have h := h.2
    refine mx_callV yX10_needsSeeCard m_X10_needsSeeCard [.int v3, .int (mx_I M 32 v2.toNatClampNeg)] mm_X10_needsSeeCard ml_RX10_352 im_X10_needsSeeCard se_X10_needsSeeCard (tp_s T 1 rfl) rfl rfl (Nat.le_of_ble_eq_true rfl) (mx_da t_X10_sees 23 rfl) rfl (Nat.le_of_ble_eq_true rfl) rfl ?_
    refine mx_mono h ?_
    intro o M1 ho
    obtain ⟨e1, e2, ho⟩ := ho
    obtain ⟨x2, rfl, h⟩ := ho
    refine ⟨e1, ?_⟩
    have T := tp_of e1 e2 T
    have ht0 := (congrFun (congrFun e2 1) 10).trans ht0
    clear e1 e2
    show mx_W m_X10_sees (d + 1) 42 [.ref 1, .int v1, .int v2, .int v3] [.int (mx_b x2)] M1 Q
    refine mx_if_eq 48 (mx_da t_X10_sees 24 rfl) rfl rfl (fun g9 => ?_) (fun g9 => ?_)
    · have h := h.1 (mx_b0.mp g9)
      refine mx_iinc 3 (v := v3 + 1) [.ref 1, .int v1, .int v2, .int (v3 + 1)] (mx_da t_X10_sees 26 rfl) rfl (by decide) rfl rfl rfl ?_
      refine mx_goto (n := 17) (mx_da t_X10_sees 27 rfl) rfl ?_
      exact h
    · have h := h.2 (mx_bn.mp g9)
      refine mx_iinc 1 (v := v1 + 1) [.ref 1, .int (v1 + 1), .int v2, .int v3] (mx_da t_X10_sees 25 rfl) rfl (by decide) rfl rfl rfl ?_
      refine mx_iinc 3 (v := v3 + 1) [.ref 1, .int (v1 + 1), .int v2, .int (v3 + 1)] (mx_da t_X10_sees 26 rfl) rfl (by decide) rfl rfl rfl ?_
      refine mx_goto (n := 17) (mx_da t_X10_sees 27 rfl) rfl ?_
      exact h
set_option maxHeartbeats 1000000 in
theorem x_X10_needsSeeCard_0 {d : Nat} {M : mx_M} {Q : mx_O → mx_M → Prop} (T : mx_Tp M) (t : Nat) (ht : mx_Cat t) (ht0 : mx_R M 1 10 = t) (v1 : Int32) (v2 : Int32)
    (h : (mx_W m_X5_finds d 0 [.ref 31, .ref 24, .int v1, .int v2] [] M (fun o M1 => mx_sh M1 = mx_sh M ∧ mx_R M1 = mx_R M ∧ (∃ x2 : Bool, o = .inl (some (.int (mx_b x2))) ∧ ((x2 = false → mx_W m_X10_needsSeeCard (d + 1) 20 [.ref 1, .int v1, .int v2, .int 0] [] M1 Q) ∧ (x2 = true → Q (.inl (some (.int (mx_b false)))) M1)))))) :
    mx_W m_X10_needsSeeCard (d + 1) 0 [.ref 1, .int v1, .int v2, .retAddr 0] [] M Q := by
  refine mx_aload_n 0 (mx_da t_X10_needsSeeCard 0 rfl) rfl rfl rfl rfl ?_
  refine mx_getR 31 fs_RX10_37 rfl (tp_s T 1 rfl) (tp_r T 30 rfl) (mx_da t_X10_needsSeeCard 1 rfl) rfl ?_
  refine mx_aload_n 0 (mx_da t_X10_needsSeeCard 2 rfl) rfl rfl rfl rfl ?_
  refine mx_getR 24 fs_RX10_30 rfl (tp_s T 1 rfl) (tp_r T 28 rfl) (mx_da t_X10_needsSeeCard 3 rfl) rfl ?_
  refine mx_iload_n 1 (mx_da t_X10_needsSeeCard 4 rfl) rfl rfl rfl ?_
  refine mx_iload_n 2 (mx_da t_X10_needsSeeCard 5 rfl) rfl rfl rfl ?_
  refine mx_callV yX5_finds m_X5_finds [.ref 24, .int v1, .int v2] mm_X5_finds ml_RX10_348 im_X5_finds se_X5_finds (tp_s T 31 rfl) rfl rfl (Nat.le_of_ble_eq_true rfl) (mx_da t_X10_needsSeeCard 6 rfl) rfl (Nat.le_of_ble_eq_true rfl) rfl ?_
  refine mx_mono h ?_
  intro o M1 ho
  obtain ⟨e1, e2, ho⟩ := ho
  obtain ⟨x2, rfl, h⟩ := ho
  refine ⟨e1, ?_⟩
  have T := tp_of e1 e2 T
  have ht0 := (congrFun (congrFun e2 1) 10).trans ht0
  clear e1 e2
  show mx_W m_X10_needsSeeCard (d + 1) 13 [.ref 1, .int v1, .int v2, .retAddr 0] [.int (mx_b x2)] M1 Q
  refine mx_if_eq 18 (mx_da t_X10_needsSeeCard 7 rfl) rfl rfl (fun g9 => ?_) (fun g9 => ?_)
  · have h := h.1 (mx_b0.mp g9)
    refine mx_iconst (v := 0) (mx_da t_X10_needsSeeCard 10 rfl) rfl rfl ?_
    refine mx_istore_n 3 [.ref 1, .int v1, .int v2, .int 0] (mx_da t_X10_needsSeeCard 11 rfl) rfl rfl (by decide) rfl ?_
    exact h
  · have h := h.2 (mx_bn.mp g9)
    refine mx_iconst (v := 0) (mx_da t_X10_needsSeeCard 8 rfl) rfl rfl ?_
    exact mx_zret rfl rfl (mx_da t_X10_needsSeeCard 9 rfl) h
set_option maxHeartbeats 1000000 in
theorem x_X10_needsSeeCard_20 {d : Nat} {M : mx_M} {Q : mx_O → mx_M → Prop} (T : mx_Tp M) (t : Nat) (ht : mx_Cat t) (ht0 : mx_R M 1 10 = t) (v1 : Int32) (v2 : Int32) (v3 : Int32)
    (h : ((v1 ≤ v3 → Q (.inl (some (.int (mx_b true)))) M) ∧ (¬ v1 ≤ v3 → (mx_W m_X5_finds d 0 [.ref 31, .ref 24, .int v3, .int v2] [] M (fun o M1 => mx_sh M1 = mx_sh M ∧ mx_R M1 = mx_R M ∧ (∃ x2 : Bool, o = .inl (some (.int (mx_b x2))) ∧ ((x2 = true → mx_W m_X10_needsSeeCard (d + 1) 20 [.ref 1, .int v1, .int v2, .int (v3 + 1)] [] M1 Q) ∧ (x2 = false → (mx_W m_X3_hasSameKey d 0 [.ref 24, .int v3, .int v1, .int v2] [] M1 (fun o M3 => mx_sh M3 = mx_sh M1 ∧ mx_R M3 = mx_R M1 ∧ (∃ x4 : Bool, o = .inl (some (.int (mx_b x4))) ∧ ((x4 = false → mx_W m_X10_needsSeeCard (d + 1) 20 [.ref 1, .int v1, .int v2, .int (v3 + 1)] [] M3 Q) ∧ (x4 = true → Q (.inl (some (.int (mx_b false)))) M3))))))))))))) :
    mx_W m_X10_needsSeeCard (d + 1) 20 [.ref 1, .int v1, .int v2, .int v3] [] M Q := by
  refine mx_iload_n 3 (mx_da t_X10_needsSeeCard 12 rfl) rfl rfl rfl ?_
  refine mx_iload_n 1 (mx_da t_X10_needsSeeCard 13 rfl) rfl rfl rfl ?_
  refine mx_icmp_ge 62 (mx_da t_X10_needsSeeCard 14 rfl) rfl rfl (fun g9 => ?_) (fun g9 => ?_)
  · have h := h.1 g9
    refine mx_iconst (v := 1) (mx_da t_X10_needsSeeCard 34 rfl) rfl rfl ?_
    exact mx_zret rfl rfl (mx_da t_X10_needsSeeCard 35 rfl) h
  · have h := h.2 g9
    refine mx_aload_n 0 (mx_da t_X10_needsSeeCard 15 rfl) rfl rfl rfl rfl ?_
    refine mx_getR 31 fs_RX10_37 rfl (tp_s T 1 rfl) (tp_r T 30 rfl) (mx_da t_X10_needsSeeCard 16 rfl) rfl ?_
    refine mx_aload_n 0 (mx_da t_X10_needsSeeCard 17 rfl) rfl rfl rfl rfl ?_
    refine mx_getR 24 fs_RX10_30 rfl (tp_s T 1 rfl) (tp_r T 28 rfl) (mx_da t_X10_needsSeeCard 18 rfl) rfl ?_
    refine mx_iload_n 3 (mx_da t_X10_needsSeeCard 19 rfl) rfl rfl rfl ?_
    refine mx_iload_n 2 (mx_da t_X10_needsSeeCard 20 rfl) rfl rfl rfl ?_
    refine mx_callV yX5_finds m_X5_finds [.ref 24, .int v3, .int v2] mm_X5_finds ml_RX10_348 im_X5_finds se_X5_finds (tp_s T 31 rfl) rfl rfl (Nat.le_of_ble_eq_true rfl) (mx_da t_X10_needsSeeCard 21 rfl) rfl (Nat.le_of_ble_eq_true rfl) rfl ?_
    refine mx_mono h ?_
    intro o M1 ho
    obtain ⟨e1, e2, ho⟩ := ho
    obtain ⟨x2, rfl, h⟩ := ho
    refine ⟨e1, ?_⟩
    have T := tp_of e1 e2 T
    have ht0 := (congrFun (congrFun e2 1) 10).trans ht0
    clear e1 e2
    show mx_W m_X10_needsSeeCard (d + 1) 38 [.ref 1, .int v1, .int v2, .int v3] [.int (mx_b x2)] M1 Q
    refine mx_if_ne 56 (mx_da t_X10_needsSeeCard 22 rfl) rfl rfl (fun g9 => ?_) (fun g9 => ?_)
    · have h := h.1 (mx_bn.mp g9)
      refine mx_iinc 3 (v := v3 + 1) [.ref 1, .int v1, .int v2, .int (v3 + 1)] (mx_da t_X10_needsSeeCard 32 rfl) rfl (by decide) rfl rfl rfl ?_
      refine mx_goto (n := 20) (mx_da t_X10_needsSeeCard 33 rfl) rfl ?_
      exact h
    · have h := h.2 (mx_b0.mp g9)
      refine mx_aload_n 0 (mx_da t_X10_needsSeeCard 23 rfl) rfl rfl rfl rfl ?_
      refine mx_getR 24 fs_RX10_30 rfl (tp_s T 1 rfl) (tp_r T 28 rfl) (mx_da t_X10_needsSeeCard 24 rfl) rfl ?_
      refine mx_iload_n 3 (mx_da t_X10_needsSeeCard 25 rfl) rfl rfl rfl ?_
      refine mx_iload_n 1 (mx_da t_X10_needsSeeCard 26 rfl) rfl rfl rfl ?_
      refine mx_iload_n 2 (mx_da t_X10_needsSeeCard 27 rfl) rfl rfl rfl ?_
      refine mx_callV yX3_hasSameKey m_X3_hasSameKey [.int v3, .int v1, .int v2] mm_X3_hasSameKey ml_RX10_356 im_X3_hasSameKey se_X3_hasSameKey (tp_s T 24 rfl) rfl rfl (Nat.le_of_ble_eq_true rfl) (mx_da t_X10_needsSeeCard 28 rfl) rfl (Nat.le_of_ble_eq_true rfl) rfl ?_
      refine mx_mono h ?_
      intro o M3 ho
      obtain ⟨e1, e2, ho⟩ := ho
      obtain ⟨x4, rfl, h⟩ := ho
      refine ⟨e1, ?_⟩
      have T := tp_of e1 e2 T
      have ht0 := (congrFun (congrFun e2 1) 10).trans ht0
      clear e1 e2
      show mx_W m_X10_needsSeeCard (d + 1) 51 [.ref 1, .int v1, .int v2, .int v3] [.int (mx_b x4)] M3 Q
      refine mx_if_eq 56 (mx_da t_X10_needsSeeCard 29 rfl) rfl rfl (fun g9 => ?_) (fun g9 => ?_)
      · have h := h.1 (mx_b0.mp g9)
        refine mx_iinc 3 (v := v3 + 1) [.ref 1, .int v1, .int v2, .int (v3 + 1)] (mx_da t_X10_needsSeeCard 32 rfl) rfl (by decide) rfl rfl rfl ?_
        refine mx_goto (n := 20) (mx_da t_X10_needsSeeCard 33 rfl) rfl ?_
        exact h
      · have h := h.2 (mx_bn.mp g9)
        refine mx_iconst (v := 0) (mx_da t_X10_needsSeeCard 30 rfl) rfl rfl ?_
        exact mx_zret rfl rfl (mx_da t_X10_needsSeeCard 31 rfl) h
set_option maxHeartbeats 1000000 in
theorem x_X10_reader_0 {d : Nat} {M : mx_M} {Q : mx_O → mx_M → Prop} (T : mx_Tp M) (t : Nat) (ht : mx_Cat t) (ht0 : mx_R M 1 10 = t) (v1 : Int32) (v2 : Int32) (v3 : Int32)
    (h : (mx_W m_X10_needClerk d 0 [.ref 1, .int v1] [] M (fun o M1 => mx_sh M1 = mx_sh M ∧ mx_R M1 = mx_R M ∧ ((o = .inl none ∧ (mx_W m_X10_needCard d 0 [.ref 1, .int v2] [] M1 (fun o M2 => mx_sh M2 = mx_sh M1 ∧ mx_R M2 = mx_R M1 ∧ ((o = .inl none ∧ ((v3 < 0 → (1 ≤ (mx_rm M2).1 ∧ 6 ≤ (mx_rm M2).2 ∧ Q (.inr "java/lang/IllegalArgumentException") (mx_thM M2))) ∧ (¬ v3 < 0 → ((v3 ≤ (9 : Int32) → mx_W m_X10_reader (d + 1) 37 [.ref 1, .int v1, .int v2, .int v3, .int 0, .int 0] [] M2 Q) ∧ (¬ v3 ≤ (9 : Int32) → (1 ≤ (mx_rm M2).1 ∧ 6 ≤ (mx_rm M2).2 ∧ Q (.inr "java/lang/IllegalArgumentException") (mx_thM M2))))))) ∨ ∃ E, o = .inr E ∧ Q (.inr E) M2)))) ∨ ∃ E, o = .inr E ∧ Q (.inr E) M1)))) :
    mx_W m_X10_reader (d + 1) 0 [.ref 1, .int v1, .int v2, .int v3, .retAddr 0, .retAddr 0] [] M Q := by
  refine mx_aload_n 0 (mx_da t_X10_reader 0 rfl) rfl rfl rfl rfl ?_
  refine mx_iload_n 1 (mx_da t_X10_reader 1 rfl) rfl rfl rfl ?_
  refine mx_callV yX10_needClerk m_X10_needClerk [.int v1] mm_X10_needClerk ml_RX10_184 im_X10_needClerk se_X10_needClerk (tp_s T 1 rfl) rfl rfl (Nat.le_of_ble_eq_true rfl) (mx_da t_X10_reader 2 rfl) rfl (Nat.le_of_ble_eq_true rfl) rfl ?_
  refine mx_mono h ?_
  intro o M1 ho
  obtain ⟨e1, e2, ho⟩ := ho
  rcases ho with ⟨rfl, h⟩ | ⟨E, rfl, h⟩
  rotate_left
  · exact ⟨e1, h⟩
  refine ⟨e1, ?_⟩
  have T := tp_of e1 e2 T
  have ht0 := (congrFun (congrFun e2 1) 10).trans ht0
  clear e1 e2
  show mx_W m_X10_reader (d + 1) 5 [.ref 1, .int v1, .int v2, .int v3, .retAddr 0, .retAddr 0] [] M1 Q
  refine mx_aload_n 0 (mx_da t_X10_reader 3 rfl) rfl rfl rfl rfl ?_
  refine mx_iload_n 2 (mx_da t_X10_reader 4 rfl) rfl rfl rfl ?_
  refine mx_callV yX10_needCard m_X10_needCard [.int v2] mm_X10_needCard ml_RX10_160 im_X10_needCard se_X10_needCard (tp_s T 1 rfl) rfl rfl (Nat.le_of_ble_eq_true rfl) (mx_da t_X10_reader 5 rfl) rfl (Nat.le_of_ble_eq_true rfl) rfl ?_
  refine mx_mono h ?_
  intro o M2 ho
  obtain ⟨e1, e2, ho⟩ := ho
  rcases ho with ⟨rfl, h⟩ | ⟨E, rfl, h⟩
  rotate_left
  · exact ⟨e1, h⟩
  refine ⟨e1, ?_⟩
  have T := tp_of e1 e2 T
  have ht0 := (congrFun (congrFun e2 1) 10).trans ht0
  clear e1 e2
  show mx_W m_X10_reader (d + 1) 10 [.ref 1, .int v1, .int v2, .int v3, .retAddr 0, .retAddr 0] [] M2 Q
  refine mx_iload_n 3 (mx_da t_X10_reader 6 rfl) rfl rfl rfl ?_
  refine mx_if_lt 20 (mx_da t_X10_reader 7 rfl) rfl rfl (fun g9 => ?_) (fun g9 => ?_)
  · have h := h.1 g9
    exact mx_throwW "java/lang/IllegalArgumentException" 27 109 359 113 (by decide) rfl (by decide +kernel) cl_109 in_IAE th_113.1 th_113.2 (mx_da t_X10_reader 11 rfl) (mx_da t_X10_reader 12 rfl) (mx_da t_X10_reader 13 rfl) (mx_da t_X10_reader 14 rfl) (mx_da t_X10_reader 15 rfl) rfl (by decide) h.1 h.2.1 h.2.2
  · have h := h.2 g9
    refine mx_iload_n 3 (mx_da t_X10_reader 8 rfl) rfl rfl rfl ?_
    refine mx_bipush (v := 9) (mx_da t_X10_reader 9 rfl) rfl rfl ?_
    refine mx_icmp_le 31 (mx_da t_X10_reader 10 rfl) rfl rfl (fun g9 => ?_) (fun g9 => ?_)
    · have h := h.1 g9
      refine mx_iconst (v := 0) (mx_da t_X10_reader 16 rfl) rfl rfl ?_
      refine mx_istore 4 [.ref 1, .int v1, .int v2, .int v3, .int 0, .retAddr 0] (mx_da t_X10_reader 17 rfl) rfl (by decide) rfl ?_
      refine mx_iconst (v := 0) (mx_da t_X10_reader 18 rfl) rfl rfl ?_
      refine mx_istore 5 [.ref 1, .int v1, .int v2, .int v3, .int 0, .int 0] (mx_da t_X10_reader 19 rfl) rfl (by decide) rfl ?_
      exact h
    · have h := h.2 g9
      exact mx_throwW "java/lang/IllegalArgumentException" 27 109 359 113 (by decide) rfl (by decide +kernel) cl_109 in_IAE th_113.1 th_113.2 (mx_da t_X10_reader 11 rfl) (mx_da t_X10_reader 12 rfl) (mx_da t_X10_reader 13 rfl) (mx_da t_X10_reader 14 rfl) (mx_da t_X10_reader 15 rfl) rfl (by decide) h.1 h.2.1 h.2.2
set_option maxHeartbeats 1000000 in
theorem x_X10_reader_37 {d : Nat} {M : mx_M} {Q : mx_O → mx_M → Prop} (T : mx_Tp M) (t : Nat) (ht : mx_Cat t) (ht0 : mx_R M 1 10 = t) (v1 : Int32) (v2 : Int32) (v3 : Int32) (v4 : Int32) (v5 : Int32)
    (h : (((mx_I M t 12) ≤ v5 → Q (.inl (some (.int v4))) M) ∧ (¬ (mx_I M t 12) ≤ v5 → (mx_W m_X3_beginsAlike d 0 [.ref 24, .int v1, .int v2, .int v5, .int v3, .retAddr 0] [] M (fun o M1 => mx_sh M1 = mx_sh M ∧ mx_R M1 = mx_R M ∧ (∃ x2 : Bool, o = .inl (some (.int (mx_b x2))) ∧ ((x2 = false → mx_W m_X10_reader (d + 1) 37 [.ref 1, .int v1, .int v2, .int v3, .int v4, .int (v5 + 1)] [] M1 Q) ∧ (x2 = true → mx_W m_X10_reader (d + 1) 37 [.ref 1, .int v1, .int v2, .int v3, .int (v4 ||| (1 <<< (v5 &&& 31))), .int (v5 + 1)] [] M1 Q)))))))) :
    mx_W m_X10_reader (d + 1) 37 [.ref 1, .int v1, .int v2, .int v3, .int v4, .int v5] [] M Q := by
  refine mx_iload 5 (mx_da t_X10_reader 20 rfl) rfl rfl ?_
  refine mx_aload_n 0 (mx_da t_X10_reader 21 rfl) rfl rfl rfl rfl ?_
  refine mx_getR t fs_RX10_71 rfl (tp_s T 1 rfl) ht0 (mx_da t_X10_reader 22 rfl) rfl ?_
  refine mx_getI fs_RX10_148 rfl (cat_s T ht) (mx_da t_X10_reader 23 rfl) rfl ?_
  refine mx_icmp_ge 79 (mx_da t_X10_reader 24 rfl) rfl rfl (fun g9 => ?_) (fun g9 => ?_)
  · have h := h.1 g9
    refine mx_iload 4 (mx_da t_X10_reader 41 rfl) rfl rfl ?_
    exact mx_iret rfl (mx_da t_X10_reader 42 rfl) h
  · have h := h.2 g9
    refine mx_aload_n 0 (mx_da t_X10_reader 25 rfl) rfl rfl rfl rfl ?_
    refine mx_getR 24 fs_RX10_30 rfl (tp_s T 1 rfl) (tp_r T 28 rfl) (mx_da t_X10_reader 26 rfl) rfl ?_
    refine mx_iload_n 1 (mx_da t_X10_reader 27 rfl) rfl rfl rfl ?_
    refine mx_iload_n 2 (mx_da t_X10_reader 28 rfl) rfl rfl rfl ?_
    refine mx_iload 5 (mx_da t_X10_reader 29 rfl) rfl rfl ?_
    refine mx_iload_n 3 (mx_da t_X10_reader 30 rfl) rfl rfl rfl ?_
    refine mx_callV yX3_beginsAlike m_X3_beginsAlike [.int v1, .int v2, .int v5, .int v3] mm_X3_beginsAlike ml_RX10_361 im_X3_beginsAlike se_X3_beginsAlike (tp_s T 24 rfl) rfl rfl (Nat.le_of_ble_eq_true rfl) (mx_da t_X10_reader 31 rfl) rfl (Nat.le_of_ble_eq_true rfl) rfl ?_
    refine mx_mono h ?_
    intro o M1 ho
    obtain ⟨e1, e2, ho⟩ := ho
    obtain ⟨x2, rfl, h⟩ := ho
    refine ⟨e1, ?_⟩
    have T := tp_of e1 e2 T
    have ht0 := (congrFun (congrFun e2 1) 10).trans ht0
    clear e1 e2
    show mx_W m_X10_reader (d + 1) 61 [.ref 1, .int v1, .int v2, .int v3, .int v4, .int v5] [.int (mx_b x2)] M1 Q
    refine mx_if_eq 73 (mx_da t_X10_reader 32 rfl) rfl rfl (fun g9 => ?_) (fun g9 => ?_)
    · have h := h.1 (mx_b0.mp g9)
      refine mx_iinc 5 (v := v5 + 1) [.ref 1, .int v1, .int v2, .int v3, .int v4, .int (v5 + 1)] (mx_da t_X10_reader 39 rfl) rfl (by decide) rfl rfl rfl ?_
      refine mx_goto (n := 37) (mx_da t_X10_reader 40 rfl) rfl ?_
      exact h
    · have h := h.2 (mx_bn.mp g9)
      refine mx_iload 4 (mx_da t_X10_reader 33 rfl) rfl rfl ?_
      refine mx_iconst (v := 1) (mx_da t_X10_reader 34 rfl) rfl rfl ?_
      refine mx_iload 5 (mx_da t_X10_reader 35 rfl) rfl rfl ?_
      refine mx_ishl (mx_da t_X10_reader 36 rfl) rfl ?_
      refine mx_ior (mx_da t_X10_reader 37 rfl) rfl ?_
      refine mx_istore 4 [.ref 1, .int v1, .int v2, .int v3, .int (v4 ||| (1 <<< (v5 &&& 31))), .int v5] (mx_da t_X10_reader 38 rfl) rfl (by decide) rfl ?_
      refine mx_iinc 5 (v := v5 + 1) [.ref 1, .int v1, .int v2, .int v3, .int (v4 ||| (1 <<< (v5 &&& 31))), .int (v5 + 1)] (mx_da t_X10_reader 39 rfl) rfl (by decide) rfl rfl rfl ?_
      refine mx_goto (n := 37) (mx_da t_X10_reader 40 rfl) rfl ?_
      exact h
set_option maxHeartbeats 1000000 in
theorem x_X10_could_0 {d : Nat} {M : mx_M} {Q : mx_O → mx_M → Prop} (T : mx_Tp M) (t : Nat) (ht : mx_Cat t) (ht0 : mx_R M 1 10 = t)
    (h : mx_W m_X10_could (d + 1) 4 [.ref 1, .int 0, .int 0] [] M Q) :
    mx_W m_X10_could (d + 1) 0 [.ref 1, .retAddr 0, .retAddr 0] [] M Q := by
  refine mx_iconst (v := 0) (mx_da t_X10_could 0 rfl) rfl rfl ?_
  refine mx_istore_n 1 [.ref 1, .int 0, .retAddr 0] (mx_da t_X10_could 1 rfl) rfl rfl (by decide) rfl ?_
  refine mx_iconst (v := 0) (mx_da t_X10_could 2 rfl) rfl rfl ?_
  refine mx_istore_n 2 [.ref 1, .int 0, .int 0] (mx_da t_X10_could 3 rfl) rfl rfl (by decide) rfl ?_
  exact h
set_option maxHeartbeats 1000000 in
theorem x_X10_could_4 {d : Nat} {M : mx_M} {Q : mx_O → mx_M → Prop} (T : mx_Tp M) (t : Nat) (ht : mx_Cat t) (ht0 : mx_R M 1 10 = t) (v1 : Int32) (v2 : Int32)
    (h : (((mx_I M t 13) ≤ v2 → Q (.inl (some (.int v1))) M) ∧ (¬ (mx_I M t 13) ≤ v2 → (mx_W m_X5_wrongBy d 0 [.ref 31, .ref 24, .int v2, .retAddr 0, .retAddr 0, .retAddr 0] [] M (fun o M1 => mx_sh M1 = mx_sh M ∧ mx_R M1 = mx_R M ∧ (∃ x2 : Int32, o = .inl (some (.int x2)) ∧ ((¬ x2 = 0 → mx_W m_X10_could (d + 1) 4 [.ref 1, .int v1, .int (v2 + 1)] [] M1 Q) ∧ (x2 = 0 → mx_W m_X10_could (d + 1) 4 [.ref 1, .int (v1 ||| (1 <<< (v2 &&& 31))), .int (v2 + 1)] [] M1 Q)))))))) :
    mx_W m_X10_could (d + 1) 4 [.ref 1, .int v1, .int v2] [] M Q := by
  refine mx_iload_n 2 (mx_da t_X10_could 4 rfl) rfl rfl rfl ?_
  refine mx_aload_n 0 (mx_da t_X10_could 5 rfl) rfl rfl rfl rfl ?_
  refine mx_getR t fs_RX10_71 rfl (tp_s T 1 rfl) ht0 (mx_da t_X10_could 6 rfl) rfl ?_
  refine mx_getI fs_RX10_130 rfl (cat_s T ht) (mx_da t_X10_could 7 rfl) rfl ?_
  refine mx_icmp_ge 42 (mx_da t_X10_could 8 rfl) rfl rfl (fun g9 => ?_) (fun g9 => ?_)
  · have h := h.1 g9
    refine mx_iload_n 1 (mx_da t_X10_could 24 rfl) rfl rfl rfl ?_
    exact mx_iret rfl (mx_da t_X10_could 25 rfl) h
  · have h := h.2 g9
    refine mx_aload_n 0 (mx_da t_X10_could 9 rfl) rfl rfl rfl rfl ?_
    refine mx_getR 31 fs_RX10_37 rfl (tp_s T 1 rfl) (tp_r T 30 rfl) (mx_da t_X10_could 10 rfl) rfl ?_
    refine mx_aload_n 0 (mx_da t_X10_could 11 rfl) rfl rfl rfl rfl ?_
    refine mx_getR 24 fs_RX10_30 rfl (tp_s T 1 rfl) (tp_r T 28 rfl) (mx_da t_X10_could 12 rfl) rfl ?_
    refine mx_iload_n 2 (mx_da t_X10_could 13 rfl) rfl rfl rfl ?_
    refine mx_callV yX5_wrongBy m_X5_wrongBy [.ref 24, .int v2] mm_X5_wrongBy ml_RX10_200 im_X5_wrongBy se_X5_wrongBy (tp_s T 31 rfl) rfl rfl (Nat.le_of_ble_eq_true rfl) (mx_da t_X10_could 14 rfl) rfl (Nat.le_of_ble_eq_true rfl) rfl ?_
    refine mx_mono h ?_
    intro o M1 ho
    obtain ⟨e1, e2, ho⟩ := ho
    obtain ⟨x2, rfl, h⟩ := ho
    refine ⟨e1, ?_⟩
    have T := tp_of e1 e2 T
    have ht0 := (congrFun (congrFun e2 1) 10).trans ht0
    clear e1 e2
    show mx_W m_X10_could (d + 1) 27 [.ref 1, .int v1, .int v2] [.int x2] M1 Q
    refine mx_if_ne 36 (mx_da t_X10_could 15 rfl) rfl rfl (fun g9 => ?_) (fun g9 => ?_)
    · have h := h.1 g9
      refine mx_iinc 2 (v := v2 + 1) [.ref 1, .int v1, .int (v2 + 1)] (mx_da t_X10_could 22 rfl) rfl (by decide) rfl rfl rfl ?_
      refine mx_goto (n := 4) (mx_da t_X10_could 23 rfl) rfl ?_
      exact h
    · have h := h.2 g9
      refine mx_iload_n 1 (mx_da t_X10_could 16 rfl) rfl rfl rfl ?_
      refine mx_iconst (v := 1) (mx_da t_X10_could 17 rfl) rfl rfl ?_
      refine mx_iload_n 2 (mx_da t_X10_could 18 rfl) rfl rfl rfl ?_
      refine mx_ishl (mx_da t_X10_could 19 rfl) rfl ?_
      refine mx_ior (mx_da t_X10_could 20 rfl) rfl ?_
      refine mx_istore_n 1 [.ref 1, .int (v1 ||| (1 <<< (v2 &&& 31))), .int v2] (mx_da t_X10_could 21 rfl) rfl rfl (by decide) rfl ?_
      refine mx_iinc 2 (v := v2 + 1) [.ref 1, .int (v1 ||| (1 <<< (v2 &&& 31))), .int (v2 + 1)] (mx_da t_X10_could 22 rfl) rfl (by decide) rfl rfl rfl ?_
      refine mx_goto (n := 4) (mx_da t_X10_could 23 rfl) rfl ?_
      exact h
set_option maxHeartbeats 1000000 in
theorem x_X10_explained_0 {d : Nat} {M : mx_M} {Q : mx_O → mx_M → Prop} (T : mx_Tp M) (t : Nat) (ht : mx_Cat t) (ht0 : mx_R M 1 10 = t)
    (h : mx_W m_X10_explained (d + 1) 14 [.ref 1, .int (-1), .int (1 <<< ((mx_I M t 13) &&& 31)), .int 0] [] M Q) :
    mx_W m_X10_explained (d + 1) 0 [.ref 1, .retAddr 0, .retAddr 0, .retAddr 0] [] M Q := by
  refine mx_iconst (v := (-1)) (mx_da t_X10_explained 0 rfl) rfl rfl ?_
  refine mx_istore_n 1 [.ref 1, .int (-1), .retAddr 0, .retAddr 0] (mx_da t_X10_explained 1 rfl) rfl rfl (by decide) rfl ?_
  refine mx_iconst (v := 1) (mx_da t_X10_explained 2 rfl) rfl rfl ?_
  refine mx_aload_n 0 (mx_da t_X10_explained 3 rfl) rfl rfl rfl rfl ?_
  refine mx_getR t fs_RX10_71 rfl (tp_s T 1 rfl) ht0 (mx_da t_X10_explained 4 rfl) rfl ?_
  refine mx_getI fs_RX10_130 rfl (cat_s T ht) (mx_da t_X10_explained 5 rfl) rfl ?_
  refine mx_ishl (mx_da t_X10_explained 6 rfl) rfl ?_
  refine mx_istore_n 2 [.ref 1, .int (-1), .int (1 <<< ((mx_I M t 13) &&& 31)), .retAddr 0] (mx_da t_X10_explained 7 rfl) rfl rfl (by decide) rfl ?_
  refine mx_iconst (v := 0) (mx_da t_X10_explained 8 rfl) rfl rfl ?_
  refine mx_istore_n 3 [.ref 1, .int (-1), .int (1 <<< ((mx_I M t 13) &&& 31)), .int 0] (mx_da t_X10_explained 9 rfl) rfl rfl (by decide) rfl ?_
  exact h
set_option maxHeartbeats 1000000 in
theorem x_X10_explained_14 {d : Nat} {M : mx_M} {Q : mx_O → mx_M → Prop} (T : mx_Tp M) (t : Nat) (ht : mx_Cat t) (ht0 : mx_R M 1 10 = t) (v1 : Int32) (v2 : Int32) (v3 : Int32)
    (h : ((v2 ≤ v3 → Q (.inl (some (.int v1))) M) ∧ (¬ v2 ≤ v3 → ((v1 = (-1 : Int32) → (mx_W m_X10_explains d 0 [.ref 1, .int v3, .retAddr 0, .retAddr 0, .retAddr 0] [] M (fun o M1 => mx_sh M1 = mx_sh M ∧ mx_R M1 = mx_R M ∧ (∃ x2 : Bool, o = .inl (some (.int (mx_b x2))) ∧ ((x2 = false → mx_W m_X10_explained (d + 1) 14 [.ref 1, .int v1, .int v2, .int (v3 + 1)] [] M1 Q) ∧ (x2 = true → mx_W m_X10_explained (d + 1) 14 [.ref 1, .int v3, .int v2, .int (v3 + 1)] [] M1 Q)))))) ∧ (¬ v1 = (-1 : Int32) → (mx_W m_J6_bitCount_0f7a4 d 0 [.int v3] [] M (fun o M3 => mx_sh M3 = mx_sh M ∧ mx_R M3 = mx_R M ∧ (∃ x4 : Int32, o = .inl (some (.int x4)) ∧ (mx_W m_J6_bitCount_0f7a4 d 0 [.int v1] [] M3 (fun o M5 => mx_sh M5 = mx_sh M3 ∧ mx_R M5 = mx_R M3 ∧ (∃ x6 : Int32, o = .inl (some (.int x6)) ∧ ((x6 ≤ x4 → mx_W m_X10_explained (d + 1) 14 [.ref 1, .int v1, .int v2, .int (v3 + 1)] [] M5 Q) ∧ (¬ x6 ≤ x4 → (mx_W m_X10_explains d 0 [.ref 1, .int v3, .retAddr 0, .retAddr 0, .retAddr 0] [] M5 (fun o M7 => mx_sh M7 = mx_sh M5 ∧ mx_R M7 = mx_R M5 ∧ (∃ x8 : Bool, o = .inl (some (.int (mx_b x8))) ∧ ((x8 = false → mx_W m_X10_explained (d + 1) 14 [.ref 1, .int v1, .int v2, .int (v3 + 1)] [] M7 Q) ∧ (x8 = true → mx_W m_X10_explained (d + 1) 14 [.ref 1, .int v3, .int v2, .int (v3 + 1)] [] M7 Q)))))))))))))))))) :
    mx_W m_X10_explained (d + 1) 14 [.ref 1, .int v1, .int v2, .int v3] [] M Q := by
  refine mx_iload_n 3 (mx_da t_X10_explained 10 rfl) rfl rfl rfl ?_
  refine mx_iload_n 2 (mx_da t_X10_explained 11 rfl) rfl rfl rfl ?_
  refine mx_icmp_ge 51 (mx_da t_X10_explained 12 rfl) rfl rfl (fun g9 => ?_) (fun g9 => ?_)
  · have h := h.1 g9
    refine mx_iload_n 1 (mx_da t_X10_explained 29 rfl) rfl rfl rfl ?_
    exact mx_iret rfl (mx_da t_X10_explained 30 rfl) h
  · have h := h.2 g9
    refine mx_iload_n 1 (mx_da t_X10_explained 13 rfl) rfl rfl rfl ?_
    refine mx_iconst (v := (-1)) (mx_da t_X10_explained 14 rfl) rfl rfl ?_
    refine mx_icmp_eq 35 (mx_da t_X10_explained 15 rfl) rfl rfl (fun g9 => ?_) (fun g9 => ?_)
    · have h := h.1 g9
      refine mx_aload_n 0 (mx_da t_X10_explained 21 rfl) rfl rfl rfl rfl ?_
      refine mx_iload_n 3 (mx_da t_X10_explained 22 rfl) rfl rfl rfl ?_
      refine mx_callV yX10_explains m_X10_explains [.int v3] mm_X10_explains ml_RX10_369 im_X10_explains se_X10_explains (tp_s T 1 rfl) rfl rfl (Nat.le_of_ble_eq_true rfl) (mx_da t_X10_explained 23 rfl) rfl (Nat.le_of_ble_eq_true rfl) rfl ?_
      refine mx_mono h ?_
      intro o M1 ho
      obtain ⟨e1, e2, ho⟩ := ho
      obtain ⟨x2, rfl, h⟩ := ho
      refine ⟨e1, ?_⟩
      have T := tp_of e1 e2 T
      have ht0 := (congrFun (congrFun e2 1) 10).trans ht0
      clear e1 e2
      show mx_W m_X10_explained (d + 1) 40 [.ref 1, .int v1, .int v2, .int v3] [.int (mx_b x2)] M1 Q
      refine mx_if_eq 45 (mx_da t_X10_explained 24 rfl) rfl rfl (fun g9 => ?_) (fun g9 => ?_)
      · have h := h.1 (mx_b0.mp g9)
        refine mx_iinc 3 (v := v3 + 1) [.ref 1, .int v1, .int v2, .int (v3 + 1)] (mx_da t_X10_explained 27 rfl) rfl (by decide) rfl rfl rfl ?_
        refine mx_goto (n := 14) (mx_da t_X10_explained 28 rfl) rfl ?_
        exact h
      · have h := h.2 (mx_bn.mp g9)
        refine mx_iload_n 3 (mx_da t_X10_explained 25 rfl) rfl rfl rfl ?_
        refine mx_istore_n 1 [.ref 1, .int v3, .int v2, .int v3] (mx_da t_X10_explained 26 rfl) rfl rfl (by decide) rfl ?_
        refine mx_iinc 3 (v := v3 + 1) [.ref 1, .int v3, .int v2, .int (v3 + 1)] (mx_da t_X10_explained 27 rfl) rfl (by decide) rfl rfl rfl ?_
        refine mx_goto (n := 14) (mx_da t_X10_explained 28 rfl) rfl ?_
        exact h
    · have h := h.2 g9
      refine mx_iload_n 3 (mx_da t_X10_explained 16 rfl) rfl rfl rfl ?_
      refine mx_callS yJ6_bitCount_0f7a4 m_J6_bitCount_0f7a4 [.int v3] mm_J6_bitCount_0f7a4 ml_RX10_364 st_J6_bitCount_0f7a4 rfl (Nat.le_of_ble_eq_true rfl) (mx_da t_X10_explained 17 rfl) rfl (Nat.le_of_ble_eq_true rfl) rfl ?_
      refine mx_mono h ?_
      intro o M3 ho
      obtain ⟨e1, e2, ho⟩ := ho
      obtain ⟨x4, rfl, h⟩ := ho
      refine ⟨e1, ?_⟩
      have T := tp_of e1 e2 T
      have ht0 := (congrFun (congrFun e2 1) 10).trans ht0
      clear e1 e2
      show mx_W m_X10_explained (d + 1) 28 [.ref 1, .int v1, .int v2, .int v3] [.int x4] M3 Q
      refine mx_iload_n 1 (mx_da t_X10_explained 18 rfl) rfl rfl rfl ?_
      refine mx_callS yJ6_bitCount_0f7a4 m_J6_bitCount_0f7a4 [.int v1] mm_J6_bitCount_0f7a4 ml_RX10_364 st_J6_bitCount_0f7a4 rfl (Nat.le_of_ble_eq_true rfl) (mx_da t_X10_explained 19 rfl) rfl (Nat.le_of_ble_eq_true rfl) rfl ?_
      refine mx_mono h ?_
      intro o M5 ho
      obtain ⟨e1, e2, ho⟩ := ho
      obtain ⟨x6, rfl, h⟩ := ho
      refine ⟨e1, ?_⟩
      have T := tp_of e1 e2 T
      have ht0 := (congrFun (congrFun e2 1) 10).trans ht0
      clear e1 e2
      show mx_W m_X10_explained (d + 1) 32 [.ref 1, .int v1, .int v2, .int v3] [.int x6, .int x4] M5 Q
      refine mx_icmp_ge 45 (mx_da t_X10_explained 20 rfl) rfl rfl (fun g9 => ?_) (fun g9 => ?_)
      · have h := h.1 g9
        refine mx_iinc 3 (v := v3 + 1) [.ref 1, .int v1, .int v2, .int (v3 + 1)] (mx_da t_X10_explained 27 rfl) rfl (by decide) rfl rfl rfl ?_
        refine mx_goto (n := 14) (mx_da t_X10_explained 28 rfl) rfl ?_
        exact h
      · have h := h.2 g9
        refine mx_aload_n 0 (mx_da t_X10_explained 21 rfl) rfl rfl rfl rfl ?_
        refine mx_iload_n 3 (mx_da t_X10_explained 22 rfl) rfl rfl rfl ?_
        refine mx_callV yX10_explains m_X10_explains [.int v3] mm_X10_explains ml_RX10_369 im_X10_explains se_X10_explains (tp_s T 1 rfl) rfl rfl (Nat.le_of_ble_eq_true rfl) (mx_da t_X10_explained 23 rfl) rfl (Nat.le_of_ble_eq_true rfl) rfl ?_
        refine mx_mono h ?_
        intro o M7 ho
        obtain ⟨e1, e2, ho⟩ := ho
        obtain ⟨x8, rfl, h⟩ := ho
        refine ⟨e1, ?_⟩
        have T := tp_of e1 e2 T
        have ht0 := (congrFun (congrFun e2 1) 10).trans ht0
        clear e1 e2
        show mx_W m_X10_explained (d + 1) 40 [.ref 1, .int v1, .int v2, .int v3] [.int (mx_b x8)] M7 Q
        refine mx_if_eq 45 (mx_da t_X10_explained 24 rfl) rfl rfl (fun g9 => ?_) (fun g9 => ?_)
        · have h := h.1 (mx_b0.mp g9)
          refine mx_iinc 3 (v := v3 + 1) [.ref 1, .int v1, .int v2, .int (v3 + 1)] (mx_da t_X10_explained 27 rfl) rfl (by decide) rfl rfl rfl ?_
          refine mx_goto (n := 14) (mx_da t_X10_explained 28 rfl) rfl ?_
          exact h
        · have h := h.2 (mx_bn.mp g9)
          refine mx_iload_n 3 (mx_da t_X10_explained 25 rfl) rfl rfl rfl ?_
          refine mx_istore_n 1 [.ref 1, .int v3, .int v2, .int v3] (mx_da t_X10_explained 26 rfl) rfl rfl (by decide) rfl ?_
          refine mx_iinc 3 (v := v3 + 1) [.ref 1, .int v3, .int v2, .int (v3 + 1)] (mx_da t_X10_explained 27 rfl) rfl (by decide) rfl rfl rfl ?_
          refine mx_goto (n := 14) (mx_da t_X10_explained 28 rfl) rfl ?_
          exact h
set_option maxHeartbeats 1000000 in
theorem x_X10_explains_0 {d : Nat} {M : mx_M} {Q : mx_O → mx_M → Prop} (T : mx_Tp M) (t : Nat) (ht : mx_Cat t) (ht0 : mx_R M 1 10 = t) (v1 : Int32)
    (h : mx_W m_X10_explains (d + 1) 2 [.ref 1, .int v1, .int 1, .retAddr 0, .retAddr 0] [] M Q) :
    mx_W m_X10_explains (d + 1) 0 [.ref 1, .int v1, .retAddr 0, .retAddr 0, .retAddr 0] [] M Q := by
  refine mx_iconst (v := 1) (mx_da t_X10_explains 0 rfl) rfl rfl ?_
  refine mx_istore_n 2 [.ref 1, .int v1, .int 1, .retAddr 0, .retAddr 0] (mx_da t_X10_explains 1 rfl) rfl rfl (by decide) rfl ?_
  exact h
set_option maxHeartbeats 1000000 in
theorem x_X10_explains_2 {d : Nat} {M : mx_M} {Q : mx_O → mx_M → Prop} (T : mx_Tp M) (t : Nat) (ht : mx_Cat t) (ht0 : mx_R M 1 10 = t) (v1 : Int32) (v2 : Int32)
    (h : (((mx_I M 31 1) ≤ v2 → Q (.inl (some (.int (mx_b true)))) M) ∧ (¬ (mx_I M 31 1) ≤ v2 → mx_W m_X10_explains (d + 1) 18 [.ref 1, .int v1, .int v2, .int 0, .int 0] [] M Q))) :
    mx_W m_X10_explains (d + 1) 2 [.ref 1, .int v1, .int v2, .retAddr 0, .retAddr 0] [] M Q := by
  refine mx_iload_n 2 (mx_da t_X10_explains 2 rfl) rfl rfl rfl ?_
  refine mx_aload_n 0 (mx_da t_X10_explains 3 rfl) rfl rfl rfl rfl ?_
  refine mx_getR 31 fs_RX10_37 rfl (tp_s T 1 rfl) (tp_r T 30 rfl) (mx_da t_X10_explains 4 rfl) rfl ?_
  refine mx_getI fs_RX10_144 rfl (tp_s T 31 rfl) (mx_da t_X10_explains 5 rfl) rfl ?_
  refine mx_icmp_ge 92 (mx_da t_X10_explains 6 rfl) rfl rfl (fun g9 => ?_) (fun g9 => ?_)
  · have h := h.1 g9
    refine mx_iconst (v := 1) (mx_da t_X10_explains 50 rfl) rfl rfl ?_
    exact mx_zret rfl rfl (mx_da t_X10_explains 51 rfl) h
  · have h := h.2 g9
    refine mx_iconst (v := 0) (mx_da t_X10_explains 7 rfl) rfl rfl ?_
    refine mx_istore_n 3 [.ref 1, .int v1, .int v2, .int 0, .retAddr 0] (mx_da t_X10_explains 8 rfl) rfl rfl (by decide) rfl ?_
    refine mx_iconst (v := 0) (mx_da t_X10_explains 9 rfl) rfl rfl ?_
    refine mx_istore 4 [.ref 1, .int v1, .int v2, .int 0, .int 0] (mx_da t_X10_explains 10 rfl) rfl (by decide) rfl ?_
    exact h
set_option maxHeartbeats 1000000 in
theorem x_X10_explains_18 {d : Nat} {M : mx_M} {Q : mx_O → mx_M → Prop} (T : mx_Tp M) (t : Nat) (ht : mx_Cat t) (ht0 : mx_R M 1 10 = t) (v1 : Int32) (v2 : Int32) (v3 : Int32) (v4 : Int32)
    (h : (((mx_I M t 13) ≤ v4 → ((¬ v3 = 0 → mx_W m_X10_explains (d + 1) 2 [.ref 1, .int v1, .int (v2 + 1), .retAddr 0, .retAddr 0] [] M Q) ∧ (v3 = 0 → Q (.inl (some (.int (mx_b false)))) M))) ∧ (¬ (mx_I M t 13) ≤ v4 → ((¬ ((v1 >>> (v4 &&& 31)) &&& 1) = (1 : Int32) → mx_W m_X10_explains (d + 1) 18 [.ref 1, .int v1, .int v2, .int v3, .int (v4 + 1)] [] M Q) ∧ (((v1 >>> (v4 &&& 31)) &&& 1) = (1 : Int32) → (vp_in (v2 - 1) 10 ∧ (vp_in v2 10 ∧ (mx_W m_X3_isAhead d 0 [.ref 24, .int v4, .int (mx_I M 32 (v2 - 1).toNatClampNeg), .int (mx_I M 32 v2.toNatClampNeg)] [] M (fun o M1 => mx_sh M1 = mx_sh M ∧ mx_R M1 = mx_R M ∧ (∃ x2 : Bool, o = .inl (some (.int (mx_b x2))) ∧ ((x2 = false → mx_W m_X10_explains (d + 1) 18 [.ref 1, .int v1, .int v2, .int v3, .int (v4 + 1)] [] M1 Q) ∧ (x2 = true → mx_W m_X10_explains (d + 1) 18 [.ref 1, .int v1, .int v2, .int 1, .int (v4 + 1)] [] M1 Q)))))))))))) :
    mx_W m_X10_explains (d + 1) 18 [.ref 1, .int v1, .int v2, .int v3, .int v4] [] M Q := by
  refine mx_iload 4 (mx_da t_X10_explains 11 rfl) rfl rfl ?_
  refine mx_aload_n 0 (mx_da t_X10_explains 12 rfl) rfl rfl rfl rfl ?_
  refine mx_getR t fs_RX10_71 rfl (tp_s T 1 rfl) ht0 (mx_da t_X10_explains 13 rfl) rfl ?_
  refine mx_getI fs_RX10_130 rfl (cat_s T ht) (mx_da t_X10_explains 14 rfl) rfl ?_
  refine mx_icmp_ge 80 (mx_da t_X10_explains 15 rfl) rfl rfl (fun g9 => ?_) (fun g9 => ?_)
  · have h := h.1 g9
    refine mx_iload_n 3 (mx_da t_X10_explains 44 rfl) rfl rfl rfl ?_
    refine mx_if_ne 86 (mx_da t_X10_explains 45 rfl) rfl rfl (fun g9 => ?_) (fun g9 => ?_)
    · have h := h.1 g9
      refine mx_iinc 2 (v := v2 + 1) [.ref 1, .int v1, .int (v2 + 1), .int v3, .int v4] (mx_da t_X10_explains 48 rfl) rfl (by decide) rfl rfl rfl ?_
      refine mx_goto (n := 2) (mx_da t_X10_explains 49 rfl) rfl ?_
      exact mx_wkn [.ref 1, .int v1, .int (v2 + 1), .retAddr 0, .retAddr 0] ⟨Or.inr rfl, Or.inr rfl, Or.inr rfl, Or.inl rfl, Or.inl rfl, trivial⟩ h
    · have h := h.2 g9
      refine mx_iconst (v := 0) (mx_da t_X10_explains 46 rfl) rfl rfl ?_
      exact mx_zret rfl rfl (mx_da t_X10_explains 47 rfl) h
  · have h := h.2 g9
    refine mx_iload_n 1 (mx_da t_X10_explains 16 rfl) rfl rfl rfl ?_
    refine mx_iload 4 (mx_da t_X10_explains 17 rfl) rfl rfl ?_
    refine mx_ishr (mx_da t_X10_explains 18 rfl) rfl ?_
    refine mx_iconst (v := 1) (mx_da t_X10_explains 19 rfl) rfl rfl ?_
    refine mx_iand (mx_da t_X10_explains 20 rfl) rfl ?_
    refine mx_iconst (v := 1) (mx_da t_X10_explains 21 rfl) rfl rfl ?_
    refine mx_icmp_ne 74 (mx_da t_X10_explains 22 rfl) rfl rfl (fun g9 => ?_) (fun g9 => ?_)
    · have h := h.1 g9
      refine mx_iinc 4 (v := v4 + 1) [.ref 1, .int v1, .int v2, .int v3, .int (v4 + 1)] (mx_da t_X10_explains 42 rfl) rfl (by decide) rfl rfl rfl ?_
      refine mx_goto (n := 18) (mx_da t_X10_explains 43 rfl) rfl ?_
      exact h
    · have h := h.2 g9
      refine mx_aload_n 0 (mx_da t_X10_explains 23 rfl) rfl rfl rfl rfl ?_
      refine mx_getR 24 fs_RX10_30 rfl (tp_s T 1 rfl) (tp_r T 28 rfl) (mx_da t_X10_explains 24 rfl) rfl ?_
      refine mx_iload 4 (mx_da t_X10_explains 25 rfl) rfl rfl ?_
      refine mx_aload_n 0 (mx_da t_X10_explains 26 rfl) rfl rfl rfl rfl ?_
      refine mx_getR 31 fs_RX10_37 rfl (tp_s T 1 rfl) (tp_r T 30 rfl) (mx_da t_X10_explains 27 rfl) rfl ?_
      refine mx_getR 32 fs_RX10_247 rfl (tp_s T 31 rfl) (tp_r T 29 rfl) (mx_da t_X10_explains 28 rfl) rfl ?_
      refine mx_iload_n 2 (mx_da t_X10_explains 29 rfl) rfl rfl rfl ?_
      refine mx_iconst (v := 1) (mx_da t_X10_explains 30 rfl) rfl rfl ?_
      refine mx_isub (mx_da t_X10_explains 31 rfl) rfl ?_
      refine mx_iald (tp_s T 32 rfl) h.1 (mx_da t_X10_explains 32 rfl) rfl ?_
      have h := h.2
      refine mx_aload_n 0 (mx_da t_X10_explains 33 rfl) rfl rfl rfl rfl ?_
      refine mx_getR 31 fs_RX10_37 rfl (tp_s T 1 rfl) (tp_r T 30 rfl) (mx_da t_X10_explains 34 rfl) rfl ?_
      refine mx_getR 32 fs_RX10_247 rfl (tp_s T 31 rfl) (tp_r T 29 rfl) (mx_da t_X10_explains 35 rfl) rfl ?_
      refine mx_iload_n 2 (mx_da t_X10_explains 36 rfl) rfl rfl rfl ?_
      refine mx_iald (tp_s T 32 rfl) h.1 (mx_da t_X10_explains 37 rfl) rfl ?_
      have h := h.2
      refine mx_callV yX3_isAhead m_X3_isAhead [.int v4, .int (mx_I M 32 (v2 - 1).toNatClampNeg), .int (mx_I M 32 v2.toNatClampNeg)] mm_X3_isAhead ml_RX10_236 im_X3_isAhead se_X3_isAhead (tp_s T 24 rfl) rfl rfl (Nat.le_of_ble_eq_true rfl) (mx_da t_X10_explains 38 rfl) rfl (Nat.le_of_ble_eq_true rfl) rfl ?_
      refine mx_mono h ?_
      intro o M1 ho
      obtain ⟨e1, e2, ho⟩ := ho
      obtain ⟨x2, rfl, h⟩ := ho
      refine ⟨e1, ?_⟩
      have T := tp_of e1 e2 T
      have ht0 := (congrFun (congrFun e2 1) 10).trans ht0
      clear e1 e2
      show mx_W m_X10_explains (d + 1) 69 [.ref 1, .int v1, .int v2, .int v3, .int v4] [.int (mx_b x2)] M1 Q
      refine mx_if_eq 74 (mx_da t_X10_explains 39 rfl) rfl rfl (fun g9 => ?_) (fun g9 => ?_)
      · have h := h.1 (mx_b0.mp g9)
        refine mx_iinc 4 (v := v4 + 1) [.ref 1, .int v1, .int v2, .int v3, .int (v4 + 1)] (mx_da t_X10_explains 42 rfl) rfl (by decide) rfl rfl rfl ?_
        refine mx_goto (n := 18) (mx_da t_X10_explains 43 rfl) rfl ?_
        exact h
      · have h := h.2 (mx_bn.mp g9)
        refine mx_iconst (v := 1) (mx_da t_X10_explains 40 rfl) rfl rfl ?_
        refine mx_istore_n 3 [.ref 1, .int v1, .int v2, .int 1, .int v4] (mx_da t_X10_explains 41 rfl) rfl rfl (by decide) rfl ?_
        refine mx_iinc 4 (v := v4 + 1) [.ref 1, .int v1, .int v2, .int 1, .int (v4 + 1)] (mx_da t_X10_explains 42 rfl) rfl (by decide) rfl rfl rfl ?_
        refine mx_goto (n := 18) (mx_da t_X10_explains 43 rfl) rfl ?_
        exact h
set_option maxHeartbeats 1000000 in
theorem x_X10_telling_0 {d : Nat} {M : mx_M} {Q : mx_O → mx_M → Prop} (T : mx_Tp M) (t : Nat) (ht : mx_Cat t) (ht0 : mx_R M 1 10 = t) (v1 : Int32)
    (h : (mx_W m_X10_needZeroOrOne d 0 [.int v1] [] M (fun o M1 => mx_sh M1 = mx_sh M ∧ mx_R M1 = mx_R M ∧ ((o = .inl none ∧ mx_W m_X10_telling (d + 1) 11 [.ref 1, .int v1, .int (-1), .int 0, .int 0, .retAddr 0] [] M1 Q) ∨ ∃ E, o = .inr E ∧ Q (.inr E) M1)))) :
    mx_W m_X10_telling (d + 1) 0 [.ref 1, .int v1, .retAddr 0, .retAddr 0, .retAddr 0, .retAddr 0] [] M Q := by
  refine mx_iload_n 1 (mx_da t_X10_telling 0 rfl) rfl rfl rfl ?_
  refine mx_callS yX10_needZeroOrOne m_X10_needZeroOrOne [.int v1] mm_X10_needZeroOrOne ml_RX10_287 st_X10_needZeroOrOne rfl (Nat.le_of_ble_eq_true rfl) (mx_da t_X10_telling 1 rfl) rfl (Nat.le_of_ble_eq_true rfl) rfl ?_
  refine mx_mono h ?_
  intro o M1 ho
  obtain ⟨e1, e2, ho⟩ := ho
  rcases ho with ⟨rfl, h⟩ | ⟨E, rfl, h⟩
  rotate_left
  · exact ⟨e1, h⟩
  refine ⟨e1, ?_⟩
  have T := tp_of e1 e2 T
  have ht0 := (congrFun (congrFun e2 1) 10).trans ht0
  clear e1 e2
  show mx_W m_X10_telling (d + 1) 4 [.ref 1, .int v1, .retAddr 0, .retAddr 0, .retAddr 0, .retAddr 0] [] M1 Q
  refine mx_iconst (v := (-1)) (mx_da t_X10_telling 2 rfl) rfl rfl ?_
  refine mx_istore_n 2 [.ref 1, .int v1, .int (-1), .retAddr 0, .retAddr 0, .retAddr 0] (mx_da t_X10_telling 3 rfl) rfl rfl (by decide) rfl ?_
  refine mx_iconst (v := 0) (mx_da t_X10_telling 4 rfl) rfl rfl ?_
  refine mx_istore_n 3 [.ref 1, .int v1, .int (-1), .int 0, .retAddr 0, .retAddr 0] (mx_da t_X10_telling 5 rfl) rfl rfl (by decide) rfl ?_
  refine mx_iconst (v := 0) (mx_da t_X10_telling 6 rfl) rfl rfl ?_
  refine mx_istore 4 [.ref 1, .int v1, .int (-1), .int 0, .int 0, .retAddr 0] (mx_da t_X10_telling 7 rfl) rfl (by decide) rfl ?_
  exact h
set_option maxHeartbeats 1000000 in
theorem x_X10_telling_11 {d : Nat} {M : mx_M} {Q : mx_O → mx_M → Prop} (T : mx_Tp M) (t : Nat) (ht : mx_Cat t) (ht0 : mx_R M 1 10 = t) (v1 : Int32) (v2 : Int32) (v3 : Int32) (v4 : Int32)
    (h : (((mx_I M t 12) ≤ v4 → ((¬ v1 = 0 → Q (.inl (some (.int v3))) M) ∧ (v1 = 0 → Q (.inl (some (.int v2))) M))) ∧ (¬ (mx_I M t 12) ≤ v4 → (mx_W m_X5_placeOf d 0 [.ref 31, .int v4, .retAddr 0] [] M (fun o M1 => mx_sh M1 = mx_sh M ∧ mx_R M1 = mx_R M ∧ (∃ x2 : Int32, o = .inl (some (.int x2)) ∧ ((¬ x2 = (-1 : Int32) → mx_W m_X10_telling (d + 1) 11 [.ref 1, .int v1, .int v2, .int v3, .int (v4 + 1), .retAddr 0] [] M1 Q) ∧ (x2 = (-1 : Int32) → (mx_W m_X10_unlikePlaces d 0 [.ref 1, .int v4, .retAddr 0, .retAddr 0] [] M1 (fun o M3 => mx_sh M3 = mx_sh M1 ∧ mx_R M3 = mx_R M1 ∧ (∃ x4 : Int32, o = .inl (some (.int x4)) ∧ ((v2 = (-1 : Int32) → mx_W m_X10_telling (d + 1) 11 [.ref 1, .int v1, .int v4, .int x4, .int (v4 + 1), .retAddr 0] [] M3 Q) ∧ (¬ v2 = (-1 : Int32) → ((x4 ≤ v3 → mx_W m_X10_telling (d + 1) 11 [.ref 1, .int v1, .int v2, .int v3, .int (v4 + 1), .retAddr 0] [] M3 Q) ∧ (¬ x4 ≤ v3 → mx_W m_X10_telling (d + 1) 11 [.ref 1, .int v1, .int v4, .int x4, .int (v4 + 1), .retAddr 0] [] M3 Q))))))))))))))) :
    mx_W m_X10_telling (d + 1) 11 [.ref 1, .int v1, .int v2, .int v3, .int v4, .retAddr 0] [] M Q := by
  refine mx_iload 4 (mx_da t_X10_telling 8 rfl) rfl rfl ?_
  refine mx_aload_n 0 (mx_da t_X10_telling 9 rfl) rfl rfl rfl rfl ?_
  refine mx_getR t fs_RX10_71 rfl (tp_s T 1 rfl) ht0 (mx_da t_X10_telling 10 rfl) rfl ?_
  refine mx_getI fs_RX10_148 rfl (cat_s T ht) (mx_da t_X10_telling 11 rfl) rfl ?_
  refine mx_icmp_ge 67 (mx_da t_X10_telling 12 rfl) rfl rfl (fun g9 => ?_) (fun g9 => ?_)
  · have h := h.1 g9
    refine mx_iload_n 1 (mx_da t_X10_telling 35 rfl) rfl rfl rfl ?_
    refine mx_if_ne 75 (mx_da t_X10_telling 36 rfl) rfl rfl (fun g9 => ?_) (fun g9 => ?_)
    · have h := h.1 g9
      refine mx_iload_n 3 (mx_da t_X10_telling 39 rfl) rfl rfl rfl ?_
      exact mx_iret rfl (mx_da t_X10_telling 40 rfl) h
    · have h := h.2 g9
      refine mx_iload_n 2 (mx_da t_X10_telling 37 rfl) rfl rfl rfl ?_
      refine mx_goto (n := 76) (mx_da t_X10_telling 38 rfl) rfl ?_
      exact mx_iret rfl (mx_da t_X10_telling 40 rfl) h
  · have h := h.2 g9
    refine mx_aload_n 0 (mx_da t_X10_telling 13 rfl) rfl rfl rfl rfl ?_
    refine mx_getR 31 fs_RX10_37 rfl (tp_s T 1 rfl) (tp_r T 30 rfl) (mx_da t_X10_telling 14 rfl) rfl ?_
    refine mx_iload 4 (mx_da t_X10_telling 15 rfl) rfl rfl ?_
    refine mx_callV yX5_placeOf m_X5_placeOf [.int v4] mm_X5_placeOf ml_RX10_172 im_X5_placeOf se_X5_placeOf (tp_s T 31 rfl) rfl rfl (Nat.le_of_ble_eq_true rfl) (mx_da t_X10_telling 16 rfl) rfl (Nat.le_of_ble_eq_true rfl) rfl ?_
    refine mx_mono h ?_
    intro o M1 ho
    obtain ⟨e1, e2, ho⟩ := ho
    obtain ⟨x2, rfl, h⟩ := ho
    refine ⟨e1, ?_⟩
    have T := tp_of e1 e2 T
    have ht0 := (congrFun (congrFun e2 1) 10).trans ht0
    clear e1 e2
    show mx_W m_X10_telling (d + 1) 32 [.ref 1, .int v1, .int v2, .int v3, .int v4, .retAddr 0] [.int x2] M1 Q
    refine mx_iconst (v := (-1)) (mx_da t_X10_telling 17 rfl) rfl rfl ?_
    refine mx_icmp_ne 61 (mx_da t_X10_telling 18 rfl) rfl rfl (fun g9 => ?_) (fun g9 => ?_)
    · have h := h.1 g9
      refine mx_iinc 4 (v := v4 + 1) [.ref 1, .int v1, .int v2, .int v3, .int (v4 + 1), .retAddr 0] (mx_da t_X10_telling 33 rfl) rfl (by decide) rfl rfl rfl ?_
      refine mx_goto (n := 11) (mx_da t_X10_telling 34 rfl) rfl ?_
      exact h
    · have h := h.2 g9
      refine mx_aload_n 0 (mx_da t_X10_telling 19 rfl) rfl rfl rfl rfl ?_
      refine mx_iload 4 (mx_da t_X10_telling 20 rfl) rfl rfl ?_
      refine mx_callV yX10_unlikePlaces m_X10_unlikePlaces [.int v4] mm_X10_unlikePlaces ml_RX10_372 im_X10_unlikePlaces se_X10_unlikePlaces (tp_s T 1 rfl) rfl rfl (Nat.le_of_ble_eq_true rfl) (mx_da t_X10_telling 21 rfl) rfl (Nat.le_of_ble_eq_true rfl) rfl ?_
      refine mx_mono h ?_
      intro o M3 ho
      obtain ⟨e1, e2, ho⟩ := ho
      obtain ⟨x4, rfl, h⟩ := ho
      refine ⟨e1, ?_⟩
      have T := tp_of e1 e2 T
      have ht0 := (congrFun (congrFun e2 1) 10).trans ht0
      clear e1 e2
      show mx_W m_X10_telling (d + 1) 42 [.ref 1, .int v1, .int v2, .int v3, .int v4, .retAddr 0] [.int x4] M3 Q
      refine mx_istore 5 [.ref 1, .int v1, .int v2, .int v3, .int v4, .int x4] (mx_da t_X10_telling 22 rfl) rfl (by decide) rfl ?_
      refine mx_iload_n 2 (mx_da t_X10_telling 23 rfl) rfl rfl rfl ?_
      refine mx_iconst (v := (-1)) (mx_da t_X10_telling 24 rfl) rfl rfl ?_
      refine mx_icmp_eq 55 (mx_da t_X10_telling 25 rfl) rfl rfl (fun g9 => ?_) (fun g9 => ?_)
      · have h := h.1 g9
        refine mx_iload 4 (mx_da t_X10_telling 29 rfl) rfl rfl ?_
        refine mx_istore_n 2 [.ref 1, .int v1, .int v4, .int v3, .int v4, .int x4] (mx_da t_X10_telling 30 rfl) rfl rfl (by decide) rfl ?_
        refine mx_iload 5 (mx_da t_X10_telling 31 rfl) rfl rfl ?_
        refine mx_istore_n 3 [.ref 1, .int v1, .int v4, .int x4, .int v4, .int x4] (mx_da t_X10_telling 32 rfl) rfl rfl (by decide) rfl ?_
        refine mx_iinc 4 (v := v4 + 1) [.ref 1, .int v1, .int v4, .int x4, .int (v4 + 1), .int x4] (mx_da t_X10_telling 33 rfl) rfl (by decide) rfl rfl rfl ?_
        refine mx_goto (n := 11) (mx_da t_X10_telling 34 rfl) rfl ?_
        exact mx_wkn [.ref 1, .int v1, .int v4, .int x4, .int (v4 + 1), .retAddr 0] ⟨Or.inr rfl, Or.inr rfl, Or.inr rfl, Or.inr rfl, Or.inr rfl, Or.inl rfl, trivial⟩ h
      · have h := h.2 g9
        refine mx_iload 5 (mx_da t_X10_telling 26 rfl) rfl rfl ?_
        refine mx_iload_n 3 (mx_da t_X10_telling 27 rfl) rfl rfl rfl ?_
        refine mx_icmp_le 61 (mx_da t_X10_telling 28 rfl) rfl rfl (fun g9 => ?_) (fun g9 => ?_)
        · have h := h.1 g9
          refine mx_iinc 4 (v := v4 + 1) [.ref 1, .int v1, .int v2, .int v3, .int (v4 + 1), .int x4] (mx_da t_X10_telling 33 rfl) rfl (by decide) rfl rfl rfl ?_
          refine mx_goto (n := 11) (mx_da t_X10_telling 34 rfl) rfl ?_
          exact mx_wkn [.ref 1, .int v1, .int v2, .int v3, .int (v4 + 1), .retAddr 0] ⟨Or.inr rfl, Or.inr rfl, Or.inr rfl, Or.inr rfl, Or.inr rfl, Or.inl rfl, trivial⟩ h
        · have h := h.2 g9
          refine mx_iload 4 (mx_da t_X10_telling 29 rfl) rfl rfl ?_
          refine mx_istore_n 2 [.ref 1, .int v1, .int v4, .int v3, .int v4, .int x4] (mx_da t_X10_telling 30 rfl) rfl rfl (by decide) rfl ?_
          refine mx_iload 5 (mx_da t_X10_telling 31 rfl) rfl rfl ?_
          refine mx_istore_n 3 [.ref 1, .int v1, .int v4, .int x4, .int v4, .int x4] (mx_da t_X10_telling 32 rfl) rfl rfl (by decide) rfl ?_
          refine mx_iinc 4 (v := v4 + 1) [.ref 1, .int v1, .int v4, .int x4, .int (v4 + 1), .int x4] (mx_da t_X10_telling 33 rfl) rfl (by decide) rfl rfl rfl ?_
          refine mx_goto (n := 11) (mx_da t_X10_telling 34 rfl) rfl ?_
          exact mx_wkn [.ref 1, .int v1, .int v4, .int x4, .int (v4 + 1), .retAddr 0] ⟨Or.inr rfl, Or.inr rfl, Or.inr rfl, Or.inr rfl, Or.inr rfl, Or.inl rfl, trivial⟩ h
set_option maxHeartbeats 1000000 in
theorem x_X10_unlikePlaces_0 {d : Nat} {M : mx_M} {Q : mx_O → mx_M → Prop} (T : mx_Tp M) (t : Nat) (ht : mx_Cat t) (ht0 : mx_R M 1 10 = t) (v1 : Int32)
    (h : mx_W m_X10_unlikePlaces (d + 1) 4 [.ref 1, .int v1, .int 0, .int 0] [] M Q) :
    mx_W m_X10_unlikePlaces (d + 1) 0 [.ref 1, .int v1, .retAddr 0, .retAddr 0] [] M Q := by
  refine mx_iconst (v := 0) (mx_da t_X10_unlikePlaces 0 rfl) rfl rfl ?_
  refine mx_istore_n 2 [.ref 1, .int v1, .int 0, .retAddr 0] (mx_da t_X10_unlikePlaces 1 rfl) rfl rfl (by decide) rfl ?_
  refine mx_iconst (v := 0) (mx_da t_X10_unlikePlaces 2 rfl) rfl rfl ?_
  refine mx_istore_n 3 [.ref 1, .int v1, .int 0, .int 0] (mx_da t_X10_unlikePlaces 3 rfl) rfl rfl (by decide) rfl ?_
  exact h
set_option maxHeartbeats 1000000 in
theorem x_X10_unlikePlaces_4 {d : Nat} {M : mx_M} {Q : mx_O → mx_M → Prop} (T : mx_Tp M) (t : Nat) (ht : mx_Cat t) (ht0 : mx_R M 1 10 = t) (v1 : Int32) (v2 : Int32) (v3 : Int32)
    (h : (((mx_I M t 13) ≤ v3 → (mx_W m_J6_bitCount_0f7a4 d 0 [.int v2] [] M (fun o M1 => mx_sh M1 = mx_sh M ∧ mx_R M1 = mx_R M ∧ (∃ x2 : Int32, o = .inl (some (.int x2)) ∧ Q (.inl (some (.int x2))) M1)))) ∧ (¬ (mx_I M t 13) ≤ v3 → (mx_W m_X5_placeFor d 0 [.ref 31, .ref 24, .int v3, .int v1, .retAddr 0] [] M (fun o M3 => mx_sh M3 = mx_sh M ∧ mx_R M3 = mx_R M ∧ (∃ x4 : Int32, o = .inl (some (.int x4)) ∧ mx_W m_X10_unlikePlaces (d + 1) 4 [.ref 1, .int v1, .int (v2 ||| (1 <<< (x4 &&& 31))), .int (v3 + 1)] [] M3 Q)))))) :
    mx_W m_X10_unlikePlaces (d + 1) 4 [.ref 1, .int v1, .int v2, .int v3] [] M Q := by
  refine mx_iload_n 3 (mx_da t_X10_unlikePlaces 4 rfl) rfl rfl rfl ?_
  refine mx_aload_n 0 (mx_da t_X10_unlikePlaces 5 rfl) rfl rfl rfl rfl ?_
  refine mx_getR t fs_RX10_71 rfl (tp_s T 1 rfl) ht0 (mx_da t_X10_unlikePlaces 6 rfl) rfl ?_
  refine mx_getI fs_RX10_130 rfl (cat_s T ht) (mx_da t_X10_unlikePlaces 7 rfl) rfl ?_
  refine mx_icmp_ge 39 (mx_da t_X10_unlikePlaces 8 rfl) rfl rfl (fun g9 => ?_) (fun g9 => ?_)
  · have h := h.1 g9
    refine mx_iload_n 2 (mx_da t_X10_unlikePlaces 23 rfl) rfl rfl rfl ?_
    refine mx_callS yJ6_bitCount_0f7a4 m_J6_bitCount_0f7a4 [.int v2] mm_J6_bitCount_0f7a4 ml_RX10_364 st_J6_bitCount_0f7a4 rfl (Nat.le_of_ble_eq_true rfl) (mx_da t_X10_unlikePlaces 24 rfl) rfl (Nat.le_of_ble_eq_true rfl) rfl ?_
    refine mx_mono h ?_
    intro o M1 ho
    obtain ⟨e1, e2, ho⟩ := ho
    obtain ⟨x2, rfl, h⟩ := ho
    refine ⟨e1, ?_⟩
    have T := tp_of e1 e2 T
    have ht0 := (congrFun (congrFun e2 1) 10).trans ht0
    clear e1 e2
    show mx_W m_X10_unlikePlaces (d + 1) 43 [.ref 1, .int v1, .int v2, .int v3] [.int x2] M1 Q
    exact mx_iret rfl (mx_da t_X10_unlikePlaces 25 rfl) h
  · have h := h.2 g9
    refine mx_iload_n 2 (mx_da t_X10_unlikePlaces 9 rfl) rfl rfl rfl ?_
    refine mx_iconst (v := 1) (mx_da t_X10_unlikePlaces 10 rfl) rfl rfl ?_
    refine mx_aload_n 0 (mx_da t_X10_unlikePlaces 11 rfl) rfl rfl rfl rfl ?_
    refine mx_getR 31 fs_RX10_37 rfl (tp_s T 1 rfl) (tp_r T 30 rfl) (mx_da t_X10_unlikePlaces 12 rfl) rfl ?_
    refine mx_aload_n 0 (mx_da t_X10_unlikePlaces 13 rfl) rfl rfl rfl rfl ?_
    refine mx_getR 24 fs_RX10_30 rfl (tp_s T 1 rfl) (tp_r T 28 rfl) (mx_da t_X10_unlikePlaces 14 rfl) rfl ?_
    refine mx_iload_n 3 (mx_da t_X10_unlikePlaces 15 rfl) rfl rfl rfl ?_
    refine mx_iload_n 1 (mx_da t_X10_unlikePlaces 16 rfl) rfl rfl rfl ?_
    refine mx_callV yX5_placeFor m_X5_placeFor [.ref 24, .int v3, .int v1] mm_X5_placeFor ml_RX10_252 im_X5_placeFor se_X5_placeFor (tp_s T 31 rfl) rfl rfl (Nat.le_of_ble_eq_true rfl) (mx_da t_X10_unlikePlaces 17 rfl) rfl (Nat.le_of_ble_eq_true rfl) rfl ?_
    refine mx_mono h ?_
    intro o M3 ho
    obtain ⟨e1, e2, ho⟩ := ho
    obtain ⟨x4, rfl, h⟩ := ho
    refine ⟨e1, ?_⟩
    have T := tp_of e1 e2 T
    have ht0 := (congrFun (congrFun e2 1) 10).trans ht0
    clear e1 e2
    show mx_W m_X10_unlikePlaces (d + 1) 30 [.ref 1, .int v1, .int v2, .int v3] [.int x4, .int 1, .int v2] M3 Q
    refine mx_ishl (mx_da t_X10_unlikePlaces 18 rfl) rfl ?_
    refine mx_ior (mx_da t_X10_unlikePlaces 19 rfl) rfl ?_
    refine mx_istore_n 2 [.ref 1, .int v1, .int (v2 ||| (1 <<< (x4 &&& 31))), .int v3] (mx_da t_X10_unlikePlaces 20 rfl) rfl rfl (by decide) rfl ?_
    refine mx_iinc 3 (v := v3 + 1) [.ref 1, .int v1, .int (v2 ||| (1 <<< (x4 &&& 31))), .int (v3 + 1)] (mx_da t_X10_unlikePlaces 21 rfl) rfl (by decide) rfl rfl rfl ?_
    refine mx_goto (n := 4) (mx_da t_X10_unlikePlaces 22 rfl) rfl ?_
    exact h
set_option maxHeartbeats 1000000 in
theorem x_X10_matters_0 {d : Nat} {M : mx_M} {Q : mx_O → mx_M → Prop} (T : mx_Tp M) (t : Nat) (ht : mx_Cat t) (ht0 : mx_R M 1 10 = t) (v1 : Int32) (v2 : Int32)
    (h : (mx_W m_X10_needClerk d 0 [.ref 1, .int v1] [] M (fun o M1 => mx_sh M1 = mx_sh M ∧ mx_R M1 = mx_R M ∧ ((o = .inl none ∧ ((v2 < (-3 : Int32) → (1 ≤ (mx_rm M1).1 ∧ 6 ≤ (mx_rm M1).2 ∧ Q (.inr "java/util/NoSuchElementException") (mx_thM M1))) ∧ (¬ v2 < (-3 : Int32) → (vp_in v1 4 ∧ ((v2 < (mx_I M1 (t + 5) v1.toNatClampNeg) → (mx_W m_X3_learn d 0 [.ref 24, .ref t, .int v1] [] M1 (fun o M2 => mx_sh M2 = mx_sh M1 ∧ mx_R M2 = mx_R M1 ∧ (o = .inl none ∧ ((v2 = (-3) → (∀ M3, M3 = mx_setI M2 24 9 0 → (mx_W m_X3_arrange d 0 [.ref 24, .ref t, .int v1, .int 4, .retAddr 0] [] M3 (fun o M4 => mx_sh M4 = mx_sh M3 ∧ mx_R M4 = mx_R M3 ∧ (o = .inl none ∧ (mx_W m_X10_couplesApart d 0 [.ref 1, .int v1, .int 4, .retAddr 0, .retAddr 0, .retAddr 0] [] M4 (fun o M5 => mx_sh M5 = mx_sh M4 ∧ mx_R M5 = mx_R M4 ∧ (∃ x6 : Int32, o = .inl (some (.int x6)) ∧ Q (.inl (some (.int x6))) M5)))))))) ∧ (v2 = (-2) → ((¬ (mx_I M2 24 8) = 0 → (∀ M7, M7 = mx_setI M2 24 8 0 → (mx_W m_X3_arrange d 0 [.ref 24, .ref t, .int v1, .int 4, .retAddr 0] [] M7 (fun o M8 => mx_sh M8 = mx_sh M7 ∧ mx_R M8 = mx_R M7 ∧ (o = .inl none ∧ (mx_W m_X10_couplesApart d 0 [.ref 1, .int v1, .int 4, .retAddr 0, .retAddr 0, .retAddr 0] [] M8 (fun o M9 => mx_sh M9 = mx_sh M8 ∧ mx_R M9 = mx_R M8 ∧ (∃ x10 : Int32, o = .inl (some (.int x10)) ∧ Q (.inl (some (.int x10))) M9)))))))) ∧ ((mx_I M2 24 8) = 0 → (∀ M11, M11 = mx_setI M2 24 8 1 → (mx_W m_X3_arrange d 0 [.ref 24, .ref t, .int v1, .int 4, .retAddr 0] [] M11 (fun o M12 => mx_sh M12 = mx_sh M11 ∧ mx_R M12 = mx_R M11 ∧ (o = .inl none ∧ (mx_W m_X10_couplesApart d 0 [.ref 1, .int v1, .int 4, .retAddr 0, .retAddr 0, .retAddr 0] [] M12 (fun o M13 => mx_sh M13 = mx_sh M12 ∧ mx_R M13 = mx_R M12 ∧ (∃ x14 : Int32, o = .inl (some (.int x14)) ∧ Q (.inl (some (.int x14))) M13)))))))))) ∧ (v2 = (-1) → ((¬ (mx_I M2 24 7) = 0 → (∀ M15, M15 = mx_setI M2 24 7 0 → (mx_W m_X3_arrange d 0 [.ref 24, .ref t, .int v1, .int 4, .retAddr 0] [] M15 (fun o M16 => mx_sh M16 = mx_sh M15 ∧ mx_R M16 = mx_R M15 ∧ (o = .inl none ∧ (mx_W m_X10_couplesApart d 0 [.ref 1, .int v1, .int 4, .retAddr 0, .retAddr 0, .retAddr 0] [] M16 (fun o M17 => mx_sh M17 = mx_sh M16 ∧ mx_R M17 = mx_R M16 ∧ (∃ x18 : Int32, o = .inl (some (.int x18)) ∧ Q (.inl (some (.int x18))) M17)))))))) ∧ ((mx_I M2 24 7) = 0 → (∀ M19, M19 = mx_setI M2 24 7 1 → (mx_W m_X3_arrange d 0 [.ref 24, .ref t, .int v1, .int 4, .retAddr 0] [] M19 (fun o M20 => mx_sh M20 = mx_sh M19 ∧ mx_R M20 = mx_R M19 ∧ (o = .inl none ∧ (mx_W m_X10_couplesApart d 0 [.ref 1, .int v1, .int 4, .retAddr 0, .retAddr 0, .retAddr 0] [] M20 (fun o M21 => mx_sh M21 = mx_sh M20 ∧ mx_R M21 = mx_R M20 ∧ (∃ x22 : Int32, o = .inl (some (.int x22)) ∧ Q (.inl (some (.int x22))) M21)))))))))) ∧ (¬ v2 = (-3) → ¬ v2 = (-2) → ¬ v2 = (-1) → (∀ M23, M23 = mx_setI M2 24 6 v2 → (mx_W m_X3_arrange d 0 [.ref 24, .ref t, .int v1, .int 4, .retAddr 0] [] M23 (fun o M24 => mx_sh M24 = mx_sh M23 ∧ mx_R M24 = mx_R M23 ∧ (o = .inl none ∧ (mx_W m_X10_couplesApart d 0 [.ref 1, .int v1, .int 4, .retAddr 0, .retAddr 0, .retAddr 0] [] M24 (fun o M25 => mx_sh M25 = mx_sh M24 ∧ mx_R M25 = mx_R M24 ∧ (∃ x26 : Int32, o = .inl (some (.int x26)) ∧ Q (.inl (some (.int x26))) M25))))))))))))) ∧ (¬ v2 < (mx_I M1 (t + 5) v1.toNatClampNeg) → (1 ≤ (mx_rm M1).1 ∧ 6 ≤ (mx_rm M1).2 ∧ Q (.inr "java/util/NoSuchElementException") (mx_thM M1)))))))) ∨ ∃ E, o = .inr E ∧ Q (.inr E) M1)))) :
    mx_W m_X10_matters (d + 1) 0 [.ref 1, .int v1, .int v2] [] M Q := by
  refine mx_aload_n 0 (mx_da t_X10_matters 0 rfl) rfl rfl rfl rfl ?_
  refine mx_iload_n 1 (mx_da t_X10_matters 1 rfl) rfl rfl rfl ?_
  refine mx_callV yX10_needClerk m_X10_needClerk [.int v1] mm_X10_needClerk ml_RX10_184 im_X10_needClerk se_X10_needClerk (tp_s T 1 rfl) rfl rfl (Nat.le_of_ble_eq_true rfl) (mx_da t_X10_matters 2 rfl) rfl (Nat.le_of_ble_eq_true rfl) rfl ?_
  refine mx_mono h ?_
  intro o M1 ho
  obtain ⟨e1, e2, ho⟩ := ho
  rcases ho with ⟨rfl, h⟩ | ⟨E, rfl, h⟩
  rotate_left
  · exact ⟨e1, h⟩
  refine ⟨e1, ?_⟩
  have T := tp_of e1 e2 T
  have ht0 := (congrFun (congrFun e2 1) 10).trans ht0
  clear e1 e2
  show mx_W m_X10_matters (d + 1) 5 [.ref 1, .int v1, .int v2] [] M1 Q
  refine mx_iload_n 2 (mx_da t_X10_matters 3 rfl) rfl rfl rfl ?_
  refine mx_bipush (v := (-3)) (mx_da t_X10_matters 4 rfl) rfl rfl ?_
  refine mx_icmp_lt 24 (mx_da t_X10_matters 5 rfl) rfl rfl (fun g9 => ?_) (fun g9 => ?_)
  · have h := h.1 g9
    exact mx_thrN 26 155 375 3 rfl (by decide) rfl cl_155 in_NSE (mx_da t_X10_matters 13 rfl) (mx_da t_X10_matters 14 rfl) (Or.inr ⟨rfl, (mx_da t_X10_matters 15 rfl)⟩) (mx_da t_X10_matters 16 rfl) (mx_da t_X10_matters 17 rfl) rfl (by decide) h.1 h.2.1 h.2.2
  · have h := h.2 g9
    refine mx_iload_n 2 (mx_da t_X10_matters 6 rfl) rfl rfl rfl ?_
    refine mx_aload_n 0 (mx_da t_X10_matters 7 rfl) rfl rfl rfl rfl ?_
    refine mx_getR t fs_RX10_71 rfl (tp_s T 1 rfl) ht0 (mx_da t_X10_matters 8 rfl) rfl ?_
    refine mx_getR (t + 5) fs_RX10_187 rfl (cat_s T ht) (cat_r4 T ht) (mx_da t_X10_matters 9 rfl) rfl ?_
    refine mx_iload_n 1 (mx_da t_X10_matters 10 rfl) rfl rfl rfl ?_
    refine mx_iald (cat_a4 T ht) h.1 (mx_da t_X10_matters 11 rfl) rfl ?_
    have h := h.2
    refine mx_icmp_lt 35 (mx_da t_X10_matters 12 rfl) rfl rfl (fun g9 => ?_) (fun g9 => ?_)
    · have h := h.1 g9
      refine mx_aload_n 0 (mx_da t_X10_matters 18 rfl) rfl rfl rfl rfl ?_
      refine mx_getR 24 fs_RX10_30 rfl (tp_s T 1 rfl) (tp_r T 28 rfl) (mx_da t_X10_matters 19 rfl) rfl ?_
      refine mx_aload_n 0 (mx_da t_X10_matters 20 rfl) rfl rfl rfl rfl ?_
      refine mx_getR t fs_RX10_71 rfl (tp_s T 1 rfl) ht0 (mx_da t_X10_matters 21 rfl) rfl ?_
      refine mx_iload_n 1 (mx_da t_X10_matters 22 rfl) rfl rfl rfl ?_
      refine mx_callV yX3_learn m_X3_learn [.ref t, .int v1] mm_X3_learn ml_RX10_133 im_X3_learn se_X3_learn (tp_s T 24 rfl) rfl rfl (Nat.le_of_ble_eq_true rfl) (mx_da t_X10_matters 23 rfl) rfl (Nat.le_of_ble_eq_true rfl) rfl ?_
      refine mx_mono h ?_
      intro o M2 ho
      obtain ⟨e1, e2, ho⟩ := ho
      obtain ⟨rfl, h⟩ := ho
      refine ⟨e1, ?_⟩
      have T := tp_of e1 e2 T
      have ht0 := (congrFun (congrFun e2 1) 10).trans ht0
      clear e1 e2
      show mx_W m_X10_matters (d + 1) 47 [.ref 1, .int v1, .int v2] [] M2 Q
      refine mx_iload_n 2 (mx_da t_X10_matters 24 rfl) rfl rfl rfl ?_
      by_cases hc0 : v2 = (-3)
      · have h := h.1 hc0
        refine mx_tsIn (n := 126) (-3) hc0 (mx_da t_X10_matters 25 rfl) (by decide) (by decide) rfl rfl ?_
        refine mx_aload_n 0 (mx_da t_X10_matters 48 rfl) rfl rfl rfl rfl ?_
        refine mx_getR 24 fs_RX10_30 rfl (tp_s T 1 rfl) (tp_r T 28 rfl) (mx_da t_X10_matters 49 rfl) rfl ?_
        refine mx_iconst (v := 0) (mx_da t_X10_matters 50 rfl) rfl rfl ?_
        refine mx_putI fs_RX10_383 rfl (tp_s T 24 rfl) rfl rfl rfl (mx_da t_X10_matters 51 rfl) rfl ?_
        refine mx_gen (mx_setI M2 24 9 0) (fun M3 e9 => ?_)
        have h := h _ e9
        have T : mx_Tp M3 := tp_e e9 T
        have ht0 : mx_R M3 1 10 = t := rr_e e9 ht0
        refine mx_goto (n := 145) (mx_da t_X10_matters 52 rfl) rfl ?_
        refine mx_aload_n 0 (mx_da t_X10_matters 57 rfl) rfl rfl rfl rfl ?_
        refine mx_getR 24 fs_RX10_30 rfl (tp_s T 1 rfl) (tp_r T 28 rfl) (mx_da t_X10_matters 58 rfl) rfl ?_
        refine mx_aload_n 0 (mx_da t_X10_matters 59 rfl) rfl rfl rfl rfl ?_
        refine mx_getR t fs_RX10_71 rfl (tp_s T 1 rfl) ht0 (mx_da t_X10_matters 60 rfl) rfl ?_
        refine mx_iload_n 1 (mx_da t_X10_matters 61 rfl) rfl rfl rfl ?_
        refine mx_iconst (v := 4) (mx_da t_X10_matters 62 rfl) rfl rfl ?_
        refine mx_callV yX3_arrange m_X3_arrange [.ref t, .int v1, .int 4] mm_X3_arrange ml_RX10_137 im_X3_arrange se_X3_arrange (tp_s T 24 rfl) rfl rfl (Nat.le_of_ble_eq_true rfl) (mx_da t_X10_matters 63 rfl) rfl (Nat.le_of_ble_eq_true rfl) rfl ?_
        refine mx_mono h ?_
        intro o M4 ho
        obtain ⟨e1, e2, ho⟩ := ho
        obtain ⟨rfl, h⟩ := ho
        refine ⟨e1, ?_⟩
        have T := tp_of e1 e2 T
        have ht0 := (congrFun (congrFun e2 1) 10).trans ht0
        clear e1 e2
        show mx_W m_X10_matters (d + 1) 158 [.ref 1, .int v1, .int v2] [] M4 Q
        refine mx_aload_n 0 (mx_da t_X10_matters 64 rfl) rfl rfl rfl rfl ?_
        refine mx_iload_n 1 (mx_da t_X10_matters 65 rfl) rfl rfl rfl ?_
        refine mx_iconst (v := 4) (mx_da t_X10_matters 66 rfl) rfl rfl ?_
        refine mx_callV yX10_couplesApart m_X10_couplesApart [.int v1, .int 4] mm_X10_couplesApart ml_RX10_290 im_X10_couplesApart se_X10_couplesApart (tp_s T 1 rfl) rfl rfl (Nat.le_of_ble_eq_true rfl) (mx_da t_X10_matters 67 rfl) rfl (Nat.le_of_ble_eq_true rfl) rfl ?_
        refine mx_mono h ?_
        intro o M5 ho
        obtain ⟨e1, e2, ho⟩ := ho
        obtain ⟨x6, rfl, h⟩ := ho
        refine ⟨e1, ?_⟩
        have T := tp_of e1 e2 T
        have ht0 := (congrFun (congrFun e2 1) 10).trans ht0
        clear e1 e2
        show mx_W m_X10_matters (d + 1) 164 [.ref 1, .int v1, .int v2] [.int x6] M5 Q
        exact mx_iret rfl (mx_da t_X10_matters 68 rfl) h
      by_cases hc1 : v2 = (-2)
      · have h := h.2.1 hc1
        refine mx_tsIn (n := 101) (-2) hc1 (mx_da t_X10_matters 25 rfl) (by decide) (by decide) rfl rfl ?_
        refine mx_aload_n 0 (mx_da t_X10_matters 37 rfl) rfl rfl rfl rfl ?_
        refine mx_getR 24 fs_RX10_30 rfl (tp_s T 1 rfl) (tp_r T 28 rfl) (mx_da t_X10_matters 38 rfl) rfl ?_
        refine mx_aload_n 0 (mx_da t_X10_matters 39 rfl) rfl rfl rfl rfl ?_
        refine mx_getR 24 fs_RX10_30 rfl (tp_s T 1 rfl) (tp_r T 28 rfl) (mx_da t_X10_matters 40 rfl) rfl ?_
        refine mx_getI fs_RX10_380 rfl (tp_s T 24 rfl) (mx_da t_X10_matters 41 rfl) rfl ?_
        refine mx_if_ne 119 (mx_da t_X10_matters 42 rfl) rfl rfl (fun g9 => ?_) (fun g9 => ?_)
        · have h := h.1 g9
          refine mx_iconst (v := 0) (mx_da t_X10_matters 45 rfl) rfl rfl ?_
          refine mx_putI fs_RX10_380 rfl (tp_s T 24 rfl) rfl rfl rfl (mx_da t_X10_matters 46 rfl) rfl ?_
          refine mx_gen (mx_setI M2 24 8 0) (fun M7 e9 => ?_)
          have h := h _ e9
          have T : mx_Tp M7 := tp_e e9 T
          have ht0 : mx_R M7 1 10 = t := rr_e e9 ht0
          refine mx_goto (n := 145) (mx_da t_X10_matters 47 rfl) rfl ?_
          refine mx_aload_n 0 (mx_da t_X10_matters 57 rfl) rfl rfl rfl rfl ?_
          refine mx_getR 24 fs_RX10_30 rfl (tp_s T 1 rfl) (tp_r T 28 rfl) (mx_da t_X10_matters 58 rfl) rfl ?_
          refine mx_aload_n 0 (mx_da t_X10_matters 59 rfl) rfl rfl rfl rfl ?_
          refine mx_getR t fs_RX10_71 rfl (tp_s T 1 rfl) ht0 (mx_da t_X10_matters 60 rfl) rfl ?_
          refine mx_iload_n 1 (mx_da t_X10_matters 61 rfl) rfl rfl rfl ?_
          refine mx_iconst (v := 4) (mx_da t_X10_matters 62 rfl) rfl rfl ?_
          refine mx_callV yX3_arrange m_X3_arrange [.ref t, .int v1, .int 4] mm_X3_arrange ml_RX10_137 im_X3_arrange se_X3_arrange (tp_s T 24 rfl) rfl rfl (Nat.le_of_ble_eq_true rfl) (mx_da t_X10_matters 63 rfl) rfl (Nat.le_of_ble_eq_true rfl) rfl ?_
          refine mx_mono h ?_
          intro o M8 ho
          obtain ⟨e1, e2, ho⟩ := ho
          obtain ⟨rfl, h⟩ := ho
          refine ⟨e1, ?_⟩
          have T := tp_of e1 e2 T
          have ht0 := (congrFun (congrFun e2 1) 10).trans ht0
          clear e1 e2
          show mx_W m_X10_matters (d + 1) 158 [.ref 1, .int v1, .int v2] [] M8 Q
          refine mx_aload_n 0 (mx_da t_X10_matters 64 rfl) rfl rfl rfl rfl ?_
          refine mx_iload_n 1 (mx_da t_X10_matters 65 rfl) rfl rfl rfl ?_
          refine mx_iconst (v := 4) (mx_da t_X10_matters 66 rfl) rfl rfl ?_
          refine mx_callV yX10_couplesApart m_X10_couplesApart [.int v1, .int 4] mm_X10_couplesApart ml_RX10_290 im_X10_couplesApart se_X10_couplesApart (tp_s T 1 rfl) rfl rfl (Nat.le_of_ble_eq_true rfl) (mx_da t_X10_matters 67 rfl) rfl (Nat.le_of_ble_eq_true rfl) rfl ?_
          refine mx_mono h ?_
          intro o M9 ho
          obtain ⟨e1, e2, ho⟩ := ho
          obtain ⟨x10, rfl, h⟩ := ho
          refine ⟨e1, ?_⟩
          have T := tp_of e1 e2 T
          have ht0 := (congrFun (congrFun e2 1) 10).trans ht0
          clear e1 e2
          show mx_W m_X10_matters (d + 1) 164 [.ref 1, .int v1, .int v2] [.int x10] M9 Q
          exact mx_iret rfl (mx_da t_X10_matters 68 rfl) h
        · have h := h.2 g9
          refine mx_iconst (v := 1) (mx_da t_X10_matters 43 rfl) rfl rfl ?_
          refine mx_goto (n := 120) (mx_da t_X10_matters 44 rfl) rfl ?_
          refine mx_putI fs_RX10_380 rfl (tp_s T 24 rfl) rfl rfl rfl (mx_da t_X10_matters 46 rfl) rfl ?_
          refine mx_gen (mx_setI M2 24 8 1) (fun M11 e9 => ?_)
          have h := h _ e9
          have T : mx_Tp M11 := tp_e e9 T
          have ht0 : mx_R M11 1 10 = t := rr_e e9 ht0
          refine mx_goto (n := 145) (mx_da t_X10_matters 47 rfl) rfl ?_
          refine mx_aload_n 0 (mx_da t_X10_matters 57 rfl) rfl rfl rfl rfl ?_
          refine mx_getR 24 fs_RX10_30 rfl (tp_s T 1 rfl) (tp_r T 28 rfl) (mx_da t_X10_matters 58 rfl) rfl ?_
          refine mx_aload_n 0 (mx_da t_X10_matters 59 rfl) rfl rfl rfl rfl ?_
          refine mx_getR t fs_RX10_71 rfl (tp_s T 1 rfl) ht0 (mx_da t_X10_matters 60 rfl) rfl ?_
          refine mx_iload_n 1 (mx_da t_X10_matters 61 rfl) rfl rfl rfl ?_
          refine mx_iconst (v := 4) (mx_da t_X10_matters 62 rfl) rfl rfl ?_
          refine mx_callV yX3_arrange m_X3_arrange [.ref t, .int v1, .int 4] mm_X3_arrange ml_RX10_137 im_X3_arrange se_X3_arrange (tp_s T 24 rfl) rfl rfl (Nat.le_of_ble_eq_true rfl) (mx_da t_X10_matters 63 rfl) rfl (Nat.le_of_ble_eq_true rfl) rfl ?_
          refine mx_mono h ?_
          intro o M12 ho
          obtain ⟨e1, e2, ho⟩ := ho
          obtain ⟨rfl, h⟩ := ho
          refine ⟨e1, ?_⟩
          have T := tp_of e1 e2 T
          have ht0 := (congrFun (congrFun e2 1) 10).trans ht0
          clear e1 e2
          show mx_W m_X10_matters (d + 1) 158 [.ref 1, .int v1, .int v2] [] M12 Q
          refine mx_aload_n 0 (mx_da t_X10_matters 64 rfl) rfl rfl rfl rfl ?_
          refine mx_iload_n 1 (mx_da t_X10_matters 65 rfl) rfl rfl rfl ?_
          refine mx_iconst (v := 4) (mx_da t_X10_matters 66 rfl) rfl rfl ?_
          refine mx_callV yX10_couplesApart m_X10_couplesApart [.int v1, .int 4] mm_X10_couplesApart ml_RX10_290 im_X10_couplesApart se_X10_couplesApart (tp_s T 1 rfl) rfl rfl (Nat.le_of_ble_eq_true rfl) (mx_da t_X10_matters 67 rfl) rfl (Nat.le_of_ble_eq_true rfl) rfl ?_
          refine mx_mono h ?_
          intro o M13 ho
          obtain ⟨e1, e2, ho⟩ := ho
          obtain ⟨x14, rfl, h⟩ := ho
          refine ⟨e1, ?_⟩
          have T := tp_of e1 e2 T
          have ht0 := (congrFun (congrFun e2 1) 10).trans ht0
          clear e1 e2
          show mx_W m_X10_matters (d + 1) 164 [.ref 1, .int v1, .int v2] [.int x14] M13 Q
          exact mx_iret rfl (mx_da t_X10_matters 68 rfl) h
      by_cases hc2 : v2 = (-1)
      · have h := h.2.2.1 hc2
        refine mx_tsIn (n := 76) (-1) hc2 (mx_da t_X10_matters 25 rfl) (by decide) (by decide) rfl rfl ?_
        refine mx_aload_n 0 (mx_da t_X10_matters 26 rfl) rfl rfl rfl rfl ?_
        refine mx_getR 24 fs_RX10_30 rfl (tp_s T 1 rfl) (tp_r T 28 rfl) (mx_da t_X10_matters 27 rfl) rfl ?_
        refine mx_aload_n 0 (mx_da t_X10_matters 28 rfl) rfl rfl rfl rfl ?_
        refine mx_getR 24 fs_RX10_30 rfl (tp_s T 1 rfl) (tp_r T 28 rfl) (mx_da t_X10_matters 29 rfl) rfl ?_
        refine mx_getI fs_RX10_377 rfl (tp_s T 24 rfl) (mx_da t_X10_matters 30 rfl) rfl ?_
        refine mx_if_ne 94 (mx_da t_X10_matters 31 rfl) rfl rfl (fun g9 => ?_) (fun g9 => ?_)
        · have h := h.1 g9
          refine mx_iconst (v := 0) (mx_da t_X10_matters 34 rfl) rfl rfl ?_
          refine mx_putI fs_RX10_377 rfl (tp_s T 24 rfl) rfl rfl rfl (mx_da t_X10_matters 35 rfl) rfl ?_
          refine mx_gen (mx_setI M2 24 7 0) (fun M15 e9 => ?_)
          have h := h _ e9
          have T : mx_Tp M15 := tp_e e9 T
          have ht0 : mx_R M15 1 10 = t := rr_e e9 ht0
          refine mx_goto (n := 145) (mx_da t_X10_matters 36 rfl) rfl ?_
          refine mx_aload_n 0 (mx_da t_X10_matters 57 rfl) rfl rfl rfl rfl ?_
          refine mx_getR 24 fs_RX10_30 rfl (tp_s T 1 rfl) (tp_r T 28 rfl) (mx_da t_X10_matters 58 rfl) rfl ?_
          refine mx_aload_n 0 (mx_da t_X10_matters 59 rfl) rfl rfl rfl rfl ?_
          refine mx_getR t fs_RX10_71 rfl (tp_s T 1 rfl) ht0 (mx_da t_X10_matters 60 rfl) rfl ?_
          refine mx_iload_n 1 (mx_da t_X10_matters 61 rfl) rfl rfl rfl ?_
          refine mx_iconst (v := 4) (mx_da t_X10_matters 62 rfl) rfl rfl ?_
          refine mx_callV yX3_arrange m_X3_arrange [.ref t, .int v1, .int 4] mm_X3_arrange ml_RX10_137 im_X3_arrange se_X3_arrange (tp_s T 24 rfl) rfl rfl (Nat.le_of_ble_eq_true rfl) (mx_da t_X10_matters 63 rfl) rfl (Nat.le_of_ble_eq_true rfl) rfl ?_
          refine mx_mono h ?_
          intro o M16 ho
          obtain ⟨e1, e2, ho⟩ := ho
          obtain ⟨rfl, h⟩ := ho
          refine ⟨e1, ?_⟩
          have T := tp_of e1 e2 T
          have ht0 := (congrFun (congrFun e2 1) 10).trans ht0
          clear e1 e2
          show mx_W m_X10_matters (d + 1) 158 [.ref 1, .int v1, .int v2] [] M16 Q
          refine mx_aload_n 0 (mx_da t_X10_matters 64 rfl) rfl rfl rfl rfl ?_
          refine mx_iload_n 1 (mx_da t_X10_matters 65 rfl) rfl rfl rfl ?_
          refine mx_iconst (v := 4) (mx_da t_X10_matters 66 rfl) rfl rfl ?_
          refine mx_callV yX10_couplesApart m_X10_couplesApart [.int v1, .int 4] mm_X10_couplesApart ml_RX10_290 im_X10_couplesApart se_X10_couplesApart (tp_s T 1 rfl) rfl rfl (Nat.le_of_ble_eq_true rfl) (mx_da t_X10_matters 67 rfl) rfl (Nat.le_of_ble_eq_true rfl) rfl ?_
          refine mx_mono h ?_
          intro o M17 ho
          obtain ⟨e1, e2, ho⟩ := ho
          obtain ⟨x18, rfl, h⟩ := ho
          refine ⟨e1, ?_⟩
          have T := tp_of e1 e2 T
          have ht0 := (congrFun (congrFun e2 1) 10).trans ht0
          clear e1 e2
          show mx_W m_X10_matters (d + 1) 164 [.ref 1, .int v1, .int v2] [.int x18] M17 Q
          exact mx_iret rfl (mx_da t_X10_matters 68 rfl) h
        · have h := h.2 g9
          refine mx_iconst (v := 1) (mx_da t_X10_matters 32 rfl) rfl rfl ?_
          refine mx_goto (n := 95) (mx_da t_X10_matters 33 rfl) rfl ?_
          refine mx_putI fs_RX10_377 rfl (tp_s T 24 rfl) rfl rfl rfl (mx_da t_X10_matters 35 rfl) rfl ?_
          refine mx_gen (mx_setI M2 24 7 1) (fun M19 e9 => ?_)
          have h := h _ e9
          have T : mx_Tp M19 := tp_e e9 T
          have ht0 : mx_R M19 1 10 = t := rr_e e9 ht0
          refine mx_goto (n := 145) (mx_da t_X10_matters 36 rfl) rfl ?_
          refine mx_aload_n 0 (mx_da t_X10_matters 57 rfl) rfl rfl rfl rfl ?_
          refine mx_getR 24 fs_RX10_30 rfl (tp_s T 1 rfl) (tp_r T 28 rfl) (mx_da t_X10_matters 58 rfl) rfl ?_
          refine mx_aload_n 0 (mx_da t_X10_matters 59 rfl) rfl rfl rfl rfl ?_
          refine mx_getR t fs_RX10_71 rfl (tp_s T 1 rfl) ht0 (mx_da t_X10_matters 60 rfl) rfl ?_
          refine mx_iload_n 1 (mx_da t_X10_matters 61 rfl) rfl rfl rfl ?_
          refine mx_iconst (v := 4) (mx_da t_X10_matters 62 rfl) rfl rfl ?_
          refine mx_callV yX3_arrange m_X3_arrange [.ref t, .int v1, .int 4] mm_X3_arrange ml_RX10_137 im_X3_arrange se_X3_arrange (tp_s T 24 rfl) rfl rfl (Nat.le_of_ble_eq_true rfl) (mx_da t_X10_matters 63 rfl) rfl (Nat.le_of_ble_eq_true rfl) rfl ?_
          refine mx_mono h ?_
          intro o M20 ho
          obtain ⟨e1, e2, ho⟩ := ho
          obtain ⟨rfl, h⟩ := ho
          refine ⟨e1, ?_⟩
          have T := tp_of e1 e2 T
          have ht0 := (congrFun (congrFun e2 1) 10).trans ht0
          clear e1 e2
          show mx_W m_X10_matters (d + 1) 158 [.ref 1, .int v1, .int v2] [] M20 Q
          refine mx_aload_n 0 (mx_da t_X10_matters 64 rfl) rfl rfl rfl rfl ?_
          refine mx_iload_n 1 (mx_da t_X10_matters 65 rfl) rfl rfl rfl ?_
          refine mx_iconst (v := 4) (mx_da t_X10_matters 66 rfl) rfl rfl ?_
          refine mx_callV yX10_couplesApart m_X10_couplesApart [.int v1, .int 4] mm_X10_couplesApart ml_RX10_290 im_X10_couplesApart se_X10_couplesApart (tp_s T 1 rfl) rfl rfl (Nat.le_of_ble_eq_true rfl) (mx_da t_X10_matters 67 rfl) rfl (Nat.le_of_ble_eq_true rfl) rfl ?_
          refine mx_mono h ?_
          intro o M21 ho
          obtain ⟨e1, e2, ho⟩ := ho
          obtain ⟨x22, rfl, h⟩ := ho
          refine ⟨e1, ?_⟩
          have T := tp_of e1 e2 T
          have ht0 := (congrFun (congrFun e2 1) 10).trans ht0
          clear e1 e2
          show mx_W m_X10_matters (d + 1) 164 [.ref 1, .int v1, .int v2] [.int x22] M21 Q
          exact mx_iret rfl (mx_da t_X10_matters 68 rfl) h
      have h := h.2.2.2 hc0 hc1 hc2
      refine mx_tsOut (n := 137) (mx_da t_X10_matters 25 rfl) (by have g0 := mx_ne (n := -3) rfl hc0; have g1 := mx_ne (n := -2) rfl hc1; have g2 := mx_ne (n := -1) rfl hc2; omega) rfl ?_
      refine mx_aload_n 0 (mx_da t_X10_matters 53 rfl) rfl rfl rfl rfl ?_
      refine mx_getR 24 fs_RX10_30 rfl (tp_s T 1 rfl) (tp_r T 28 rfl) (mx_da t_X10_matters 54 rfl) rfl ?_
      refine mx_iload_n 2 (mx_da t_X10_matters 55 rfl) rfl rfl rfl ?_
      refine mx_putI fs_RX10_386 rfl (tp_s T 24 rfl) rfl rfl rfl (mx_da t_X10_matters 56 rfl) rfl ?_
      refine mx_gen (mx_setI M2 24 6 v2) (fun M23 e9 => ?_)
      have h := h _ e9
      have T : mx_Tp M23 := tp_e e9 T
      have ht0 : mx_R M23 1 10 = t := rr_e e9 ht0
      refine mx_aload_n 0 (mx_da t_X10_matters 57 rfl) rfl rfl rfl rfl ?_
      refine mx_getR 24 fs_RX10_30 rfl (tp_s T 1 rfl) (tp_r T 28 rfl) (mx_da t_X10_matters 58 rfl) rfl ?_
      refine mx_aload_n 0 (mx_da t_X10_matters 59 rfl) rfl rfl rfl rfl ?_
      refine mx_getR t fs_RX10_71 rfl (tp_s T 1 rfl) ht0 (mx_da t_X10_matters 60 rfl) rfl ?_
      refine mx_iload_n 1 (mx_da t_X10_matters 61 rfl) rfl rfl rfl ?_
      refine mx_iconst (v := 4) (mx_da t_X10_matters 62 rfl) rfl rfl ?_
      refine mx_callV yX3_arrange m_X3_arrange [.ref t, .int v1, .int 4] mm_X3_arrange ml_RX10_137 im_X3_arrange se_X3_arrange (tp_s T 24 rfl) rfl rfl (Nat.le_of_ble_eq_true rfl) (mx_da t_X10_matters 63 rfl) rfl (Nat.le_of_ble_eq_true rfl) rfl ?_
      refine mx_mono h ?_
      intro o M24 ho
      obtain ⟨e1, e2, ho⟩ := ho
      obtain ⟨rfl, h⟩ := ho
      refine ⟨e1, ?_⟩
      have T := tp_of e1 e2 T
      have ht0 := (congrFun (congrFun e2 1) 10).trans ht0
      clear e1 e2
      show mx_W m_X10_matters (d + 1) 158 [.ref 1, .int v1, .int v2] [] M24 Q
      refine mx_aload_n 0 (mx_da t_X10_matters 64 rfl) rfl rfl rfl rfl ?_
      refine mx_iload_n 1 (mx_da t_X10_matters 65 rfl) rfl rfl rfl ?_
      refine mx_iconst (v := 4) (mx_da t_X10_matters 66 rfl) rfl rfl ?_
      refine mx_callV yX10_couplesApart m_X10_couplesApart [.int v1, .int 4] mm_X10_couplesApart ml_RX10_290 im_X10_couplesApart se_X10_couplesApart (tp_s T 1 rfl) rfl rfl (Nat.le_of_ble_eq_true rfl) (mx_da t_X10_matters 67 rfl) rfl (Nat.le_of_ble_eq_true rfl) rfl ?_
      refine mx_mono h ?_
      intro o M25 ho
      obtain ⟨e1, e2, ho⟩ := ho
      obtain ⟨x26, rfl, h⟩ := ho
      refine ⟨e1, ?_⟩
      have T := tp_of e1 e2 T
      have ht0 := (congrFun (congrFun e2 1) 10).trans ht0
      clear e1 e2
      show mx_W m_X10_matters (d + 1) 164 [.ref 1, .int v1, .int v2] [.int x26] M25 Q
      exact mx_iret rfl (mx_da t_X10_matters 68 rfl) h
    · have h := h.2 g9
      exact mx_thrN 26 155 375 3 rfl (by decide) rfl cl_155 in_NSE (mx_da t_X10_matters 13 rfl) (mx_da t_X10_matters 14 rfl) (Or.inr ⟨rfl, (mx_da t_X10_matters 15 rfl)⟩) (mx_da t_X10_matters 16 rfl) (mx_da t_X10_matters 17 rfl) rfl (by decide) h.1 h.2.1 h.2.2
set_option maxHeartbeats 1000000 in
theorem x_X10_game_0 {d : Nat} {M : mx_M} {Q : mx_O → mx_M → Prop} (T : mx_Tp M) (t : Nat) (ht : mx_Cat t) (ht0 : mx_R M 1 10 = t) (v1 : Int32) (v2 : Int32) (v3 : Int32) (v4 : Int32)
    (h : (mx_W m_X10_needClerk d 0 [.ref 1, .int v1] [] M (fun o M1 => mx_sh M1 = mx_sh M ∧ mx_R M1 = mx_R M ∧ ((o = .inl none ∧ (mx_W m_X10_needClerk d 0 [.ref 1, .int v2] [] M1 (fun o M2 => mx_sh M2 = mx_sh M1 ∧ mx_R M2 = mx_R M1 ∧ ((o = .inl none ∧ (mx_W m_X10_needZeroOrOne d 0 [.int v4] [] M2 (fun o M3 => mx_sh M3 = mx_sh M2 ∧ mx_R M3 = mx_R M2 ∧ ((o = .inl none ∧ ((v1 = v2 → (1 ≤ (mx_rm M3).1 ∧ 6 ≤ (mx_rm M3).2 ∧ Q (.inr "java/lang/IllegalArgumentException") (mx_thM M3))) ∧ (¬ v1 = v2 → ((v3 < 0 → (1 ≤ (mx_rm M3).1 ∧ 6 ≤ (mx_rm M3).2 ∧ Q (.inr "java/lang/IllegalArgumentException") (mx_thM M3))) ∧ (¬ v3 < 0 → ((v3 ≤ (99 : Int32) → (mx_W m_X10_couplesApartInDrawer d 0 [.ref 1, .int v1, .int v2, .retAddr 0, .retAddr 0, .retAddr 0] [] M3 (fun o M4 => mx_sh M4 = mx_sh M3 ∧ mx_R M4 = mx_R M3 ∧ (∃ x5 : Int32, o = .inl (some (.int x5)) ∧ mx_W m_X10_game (d + 1) 58 [.retAddr 0, .retAddr 0, .retAddr 0, .int v3, .int v4, .int x5, .int 0, .int (-1), .int 0, .retAddr 0, .retAddr 0] [] M4 Q)))) ∧ (¬ v3 ≤ (99 : Int32) → (1 ≤ (mx_rm M3).1 ∧ 6 ≤ (mx_rm M3).2 ∧ Q (.inr "java/lang/IllegalArgumentException") (mx_thM M3))))))))) ∨ ∃ E, o = .inr E ∧ Q (.inr E) M3)))) ∨ ∃ E, o = .inr E ∧ Q (.inr E) M2)))) ∨ ∃ E, o = .inr E ∧ Q (.inr E) M1)))) :
    mx_W m_X10_game (d + 1) 0 [.ref 1, .int v1, .int v2, .int v3, .int v4, .retAddr 0, .retAddr 0, .retAddr 0, .retAddr 0, .retAddr 0, .retAddr 0] [] M Q := by
  refine mx_aload_n 0 (mx_da t_X10_game 0 rfl) rfl rfl rfl rfl ?_
  refine mx_iload_n 1 (mx_da t_X10_game 1 rfl) rfl rfl rfl ?_
  refine mx_callV yX10_needClerk m_X10_needClerk [.int v1] mm_X10_needClerk ml_RX10_184 im_X10_needClerk se_X10_needClerk (tp_s T 1 rfl) rfl rfl (Nat.le_of_ble_eq_true rfl) (mx_da t_X10_game 2 rfl) rfl (Nat.le_of_ble_eq_true rfl) rfl ?_
  refine mx_mono h ?_
  intro o M1 ho
  obtain ⟨e1, e2, ho⟩ := ho
  rcases ho with ⟨rfl, h⟩ | ⟨E, rfl, h⟩
  rotate_left
  · exact ⟨e1, h⟩
  refine ⟨e1, ?_⟩
  have T := tp_of e1 e2 T
  have ht0 := (congrFun (congrFun e2 1) 10).trans ht0
  clear e1 e2
  show mx_W m_X10_game (d + 1) 5 [.ref 1, .int v1, .int v2, .int v3, .int v4, .retAddr 0, .retAddr 0, .retAddr 0, .retAddr 0, .retAddr 0, .retAddr 0] [] M1 Q
  refine mx_aload_n 0 (mx_da t_X10_game 3 rfl) rfl rfl rfl rfl ?_
  refine mx_iload_n 2 (mx_da t_X10_game 4 rfl) rfl rfl rfl ?_
  refine mx_callV yX10_needClerk m_X10_needClerk [.int v2] mm_X10_needClerk ml_RX10_184 im_X10_needClerk se_X10_needClerk (tp_s T 1 rfl) rfl rfl (Nat.le_of_ble_eq_true rfl) (mx_da t_X10_game 5 rfl) rfl (Nat.le_of_ble_eq_true rfl) rfl ?_
  refine mx_mono h ?_
  intro o M2 ho
  obtain ⟨e1, e2, ho⟩ := ho
  rcases ho with ⟨rfl, h⟩ | ⟨E, rfl, h⟩
  rotate_left
  · exact ⟨e1, h⟩
  refine ⟨e1, ?_⟩
  have T := tp_of e1 e2 T
  have ht0 := (congrFun (congrFun e2 1) 10).trans ht0
  clear e1 e2
  show mx_W m_X10_game (d + 1) 10 [.ref 1, .int v1, .int v2, .int v3, .int v4, .retAddr 0, .retAddr 0, .retAddr 0, .retAddr 0, .retAddr 0, .retAddr 0] [] M2 Q
  refine mx_iload 4 (mx_da t_X10_game 6 rfl) rfl rfl ?_
  refine mx_callS yX10_needZeroOrOne m_X10_needZeroOrOne [.int v4] mm_X10_needZeroOrOne ml_RX10_287 st_X10_needZeroOrOne rfl (Nat.le_of_ble_eq_true rfl) (mx_da t_X10_game 7 rfl) rfl (Nat.le_of_ble_eq_true rfl) rfl ?_
  refine mx_mono h ?_
  intro o M3 ho
  obtain ⟨e1, e2, ho⟩ := ho
  rcases ho with ⟨rfl, h⟩ | ⟨E, rfl, h⟩
  rotate_left
  · exact ⟨e1, h⟩
  refine ⟨e1, ?_⟩
  have T := tp_of e1 e2 T
  have ht0 := (congrFun (congrFun e2 1) 10).trans ht0
  clear e1 e2
  show mx_W m_X10_game (d + 1) 15 [.ref 1, .int v1, .int v2, .int v3, .int v4, .retAddr 0, .retAddr 0, .retAddr 0, .retAddr 0, .retAddr 0, .retAddr 0] [] M3 Q
  refine mx_iload_n 1 (mx_da t_X10_game 8 rfl) rfl rfl rfl ?_
  refine mx_iload_n 2 (mx_da t_X10_game 9 rfl) rfl rfl rfl ?_
  refine mx_icmp_eq 30 (mx_da t_X10_game 10 rfl) rfl rfl (fun g9 => ?_) (fun g9 => ?_)
  · have h := h.1 g9
    exact mx_throwW "java/lang/IllegalArgumentException" 28 109 389 113 (by decide) rfl (by decide +kernel) cl_109 in_IAE th_113.1 th_113.2 (mx_da t_X10_game 16 rfl) (mx_da t_X10_game 17 rfl) (mx_da t_X10_game 18 rfl) (mx_da t_X10_game 19 rfl) (mx_da t_X10_game 20 rfl) rfl (by decide) h.1 h.2.1 h.2.2
  · have h := h.2 g9
    refine mx_iload_n 3 (mx_da t_X10_game 11 rfl) rfl rfl rfl ?_
    refine mx_if_lt 30 (mx_da t_X10_game 12 rfl) rfl rfl (fun g9 => ?_) (fun g9 => ?_)
    · have h := h.1 g9
      exact mx_throwW "java/lang/IllegalArgumentException" 28 109 389 113 (by decide) rfl (by decide +kernel) cl_109 in_IAE th_113.1 th_113.2 (mx_da t_X10_game 16 rfl) (mx_da t_X10_game 17 rfl) (mx_da t_X10_game 18 rfl) (mx_da t_X10_game 19 rfl) (mx_da t_X10_game 20 rfl) rfl (by decide) h.1 h.2.1 h.2.2
    · have h := h.2 g9
      refine mx_iload_n 3 (mx_da t_X10_game 13 rfl) rfl rfl rfl ?_
      refine mx_bipush (v := 99) (mx_da t_X10_game 14 rfl) rfl rfl ?_
      refine mx_icmp_le 41 (mx_da t_X10_game 15 rfl) rfl rfl (fun g9 => ?_) (fun g9 => ?_)
      · have h := h.1 g9
        refine mx_aload_n 0 (mx_da t_X10_game 21 rfl) rfl rfl rfl rfl ?_
        refine mx_iload_n 1 (mx_da t_X10_game 22 rfl) rfl rfl rfl ?_
        refine mx_iload_n 2 (mx_da t_X10_game 23 rfl) rfl rfl rfl ?_
        refine mx_callV yX10_couplesApartInDrawer m_X10_couplesApartInDrawer [.int v1, .int v2] mm_X10_couplesApartInDrawer ml_RX10_391 im_X10_couplesApartInDrawer se_X10_couplesApartInDrawer (tp_s T 1 rfl) rfl rfl (Nat.le_of_ble_eq_true rfl) (mx_da t_X10_game 24 rfl) rfl (Nat.le_of_ble_eq_true rfl) rfl ?_
        refine mx_mono h ?_
        intro o M4 ho
        obtain ⟨e1, e2, ho⟩ := ho
        obtain ⟨x5, rfl, h⟩ := ho
        refine ⟨e1, ?_⟩
        have T := tp_of e1 e2 T
        have ht0 := (congrFun (congrFun e2 1) 10).trans ht0
        clear e1 e2
        show mx_W m_X10_game (d + 1) 47 [.ref 1, .int v1, .int v2, .int v3, .int v4, .retAddr 0, .retAddr 0, .retAddr 0, .retAddr 0, .retAddr 0, .retAddr 0] [.int x5] M4 Q
        refine mx_istore 5 [.ref 1, .int v1, .int v2, .int v3, .int v4, .int x5, .retAddr 0, .retAddr 0, .retAddr 0, .retAddr 0, .retAddr 0] (mx_da t_X10_game 25 rfl) rfl (by decide) rfl ?_
        refine mx_iconst (v := 0) (mx_da t_X10_game 26 rfl) rfl rfl ?_
        refine mx_istore 6 [.ref 1, .int v1, .int v2, .int v3, .int v4, .int x5, .int 0, .retAddr 0, .retAddr 0, .retAddr 0, .retAddr 0] (mx_da t_X10_game 27 rfl) rfl (by decide) rfl ?_
        refine mx_iconst (v := (-1)) (mx_da t_X10_game 28 rfl) rfl rfl ?_
        refine mx_istore 7 [.ref 1, .int v1, .int v2, .int v3, .int v4, .int x5, .int 0, .int (-1), .retAddr 0, .retAddr 0, .retAddr 0] (mx_da t_X10_game 29 rfl) rfl (by decide) rfl ?_
        refine mx_iconst (v := 0) (mx_da t_X10_game 30 rfl) rfl rfl ?_
        refine mx_istore 8 [.ref 1, .int v1, .int v2, .int v3, .int v4, .int x5, .int 0, .int (-1), .int 0, .retAddr 0, .retAddr 0] (mx_da t_X10_game 31 rfl) rfl (by decide) rfl ?_
        exact mx_wkn [.retAddr 0, .retAddr 0, .retAddr 0, .int v3, .int v4, .int x5, .int 0, .int (-1), .int 0, .retAddr 0, .retAddr 0] ⟨Or.inl rfl, Or.inl rfl, Or.inl rfl, Or.inr rfl, Or.inr rfl, Or.inr rfl, Or.inr rfl, Or.inr rfl, Or.inr rfl, Or.inr rfl, Or.inr rfl, trivial⟩ h
      · have h := h.2 g9
        exact mx_throwW "java/lang/IllegalArgumentException" 28 109 389 113 (by decide) rfl (by decide +kernel) cl_109 in_IAE th_113.1 th_113.2 (mx_da t_X10_game 16 rfl) (mx_da t_X10_game 17 rfl) (mx_da t_X10_game 18 rfl) (mx_da t_X10_game 19 rfl) (mx_da t_X10_game 20 rfl) rfl (by decide) h.1 h.2.1 h.2.2
set_option maxHeartbeats 1000000 in
theorem x_X10_game_58 {d : Nat} {M : mx_M} {Q : mx_O → mx_M → Prop} (T : mx_Tp M) (t : Nat) (ht : mx_Cat t) (ht0 : mx_R M 1 10 = t) (v3 : Int32) (v4 : Int32) (v5 : Int32) (v6 : Int32) (v7 : Int32) (v8 : Int32)
    (h : (((4 : Int32) ≤ v8 → ((¬ v4 = 0 → Q (.inl (some (.int v7))) M) ∧ (v4 = 0 → Q (.inl (some (.int v6))) M))) ∧ (¬ (4 : Int32) ≤ v8 → (mx_W m_X10_rests d 0 [.int ((v8 : Int32) / 2), .int ((v8 : Int32) - (v8 : Int32) / 2 * 2), .int v5, .int v3] [] M (fun o M1 => mx_sh M1 = mx_sh M ∧ mx_R M1 = mx_R M ∧ (∃ x2 : Bool, o = .inl (some (.int (mx_b x2))) ∧ ((x2 = false → mx_W m_X10_game (d + 1) 58 [.retAddr 0, .retAddr 0, .retAddr 0, .int v3, .int v4, .int v5, .int v6, .int v7, .int (v8 + 1), .retAddr 0, .retAddr 0] [] M1 Q) ∧ (x2 = true → ((¬ v7 = (-1 : Int32) → mx_W m_X10_game (d + 1) 58 [.retAddr 0, .retAddr 0, .retAddr 0, .int v3, .int v4, .int v5, .int (v6 + 1), .int v7, .int (v8 + 1), .retAddr 0, .retAddr 0] [] M1 Q) ∧ (v7 = (-1 : Int32) → mx_W m_X10_game (d + 1) 58 [.retAddr 0, .retAddr 0, .retAddr 0, .int v3, .int v4, .int v5, .int (v6 + 1), .int ((10 * ((v8 : Int32) / 2)) + ((v8 : Int32) - (v8 : Int32) / 2 * 2)), .int (v8 + 1), .retAddr 0, .retAddr 0] [] M1 Q)))))))))) :
    mx_W m_X10_game (d + 1) 58 [.retAddr 0, .retAddr 0, .retAddr 0, .int v3, .int v4, .int v5, .int v6, .int v7, .int v8, .retAddr 0, .retAddr 0] [] M Q := by
  refine mx_iload 8 (mx_da t_X10_game 32 rfl) rfl rfl ?_
  refine mx_iconst (v := 4) (mx_da t_X10_game 33 rfl) rfl rfl ?_
  refine mx_icmp_ge 119 (mx_da t_X10_game 34 rfl) rfl rfl (fun g9 => ?_) (fun g9 => ?_)
  · have h := h.1 g9
    refine mx_iload 4 (mx_da t_X10_game 63 rfl) rfl rfl ?_
    refine mx_if_ne 129 (mx_da t_X10_game 64 rfl) rfl rfl (fun g9 => ?_) (fun g9 => ?_)
    · have h := h.1 g9
      refine mx_iload 7 (mx_da t_X10_game 67 rfl) rfl rfl ?_
      exact mx_iret rfl (mx_da t_X10_game 68 rfl) h
    · have h := h.2 g9
      refine mx_iload 6 (mx_da t_X10_game 65 rfl) rfl rfl ?_
      refine mx_goto (n := 131) (mx_da t_X10_game 66 rfl) rfl ?_
      exact mx_iret rfl (mx_da t_X10_game 68 rfl) h
  · have h := h.2 g9
    refine mx_iload 8 (mx_da t_X10_game 35 rfl) rfl rfl ?_
    refine mx_iconst (v := 2) (mx_da t_X10_game 36 rfl) rfl rfl ?_
    refine mx_idiv (mx_da t_X10_game 37 rfl) rfl (by decide) ?_
    refine mx_istore 9 [.retAddr 0, .retAddr 0, .retAddr 0, .int v3, .int v4, .int v5, .int v6, .int v7, .int v8, .int ((v8 : Int32) / 2), .retAddr 0] (mx_da t_X10_game 38 rfl) rfl (by decide) rfl ?_
    refine mx_iload 8 (mx_da t_X10_game 39 rfl) rfl rfl ?_
    refine mx_iconst (v := 2) (mx_da t_X10_game 40 rfl) rfl rfl ?_
    refine mx_irem (mx_da t_X10_game 41 rfl) rfl (by decide) ?_
    refine mx_istore 10 [.retAddr 0, .retAddr 0, .retAddr 0, .int v3, .int v4, .int v5, .int v6, .int v7, .int v8, .int ((v8 : Int32) / 2), .int ((v8 : Int32) - (v8 : Int32) / 2 * 2)] (mx_da t_X10_game 42 rfl) rfl (by decide) rfl ?_
    refine mx_iload 9 (mx_da t_X10_game 43 rfl) rfl rfl ?_
    refine mx_iload 10 (mx_da t_X10_game 44 rfl) rfl rfl ?_
    refine mx_iload 5 (mx_da t_X10_game 45 rfl) rfl rfl ?_
    refine mx_iload_n 3 (mx_da t_X10_game 46 rfl) rfl rfl rfl ?_
    refine mx_callS yX10_rests m_X10_rests [.int ((v8 : Int32) / 2), .int ((v8 : Int32) - (v8 : Int32) / 2 * 2), .int v5, .int v3] mm_X10_rests ml_RX10_394 st_X10_rests rfl (Nat.le_of_ble_eq_true rfl) (mx_da t_X10_game 47 rfl) rfl (Nat.le_of_ble_eq_true rfl) rfl ?_
    refine mx_mono h ?_
    intro o M1 ho
    obtain ⟨e1, e2, ho⟩ := ho
    obtain ⟨x2, rfl, h⟩ := ho
    refine ⟨e1, ?_⟩
    have T := tp_of e1 e2 T
    have ht0 := (congrFun (congrFun e2 1) 10).trans ht0
    clear e1 e2
    show mx_W m_X10_game (d + 1) 86 [.retAddr 0, .retAddr 0, .retAddr 0, .int v3, .int v4, .int v5, .int v6, .int v7, .int v8, .int ((v8 : Int32) / 2), .int ((v8 : Int32) - (v8 : Int32) / 2 * 2)] [.int (mx_b x2)] M1 Q
    refine mx_if_eq 113 (mx_da t_X10_game 48 rfl) rfl rfl (fun g9 => ?_) (fun g9 => ?_)
    · have h := h.1 (mx_b0.mp g9)
      refine mx_iinc 8 (v := v8 + 1) [.retAddr 0, .retAddr 0, .retAddr 0, .int v3, .int v4, .int v5, .int v6, .int v7, .int (v8 + 1), .int ((v8 : Int32) / 2), .int ((v8 : Int32) - (v8 : Int32) / 2 * 2)] (mx_da t_X10_game 61 rfl) rfl (by decide) rfl rfl rfl ?_
      refine mx_goto (n := 58) (mx_da t_X10_game 62 rfl) rfl ?_
      exact mx_wkn [.retAddr 0, .retAddr 0, .retAddr 0, .int v3, .int v4, .int v5, .int v6, .int v7, .int (v8 + 1), .retAddr 0, .retAddr 0] ⟨Or.inr rfl, Or.inr rfl, Or.inr rfl, Or.inr rfl, Or.inr rfl, Or.inr rfl, Or.inr rfl, Or.inr rfl, Or.inr rfl, Or.inl rfl, Or.inl rfl, trivial⟩ h
    · have h := h.2 (mx_bn.mp g9)
      refine mx_iinc 6 (v := v6 + 1) [.retAddr 0, .retAddr 0, .retAddr 0, .int v3, .int v4, .int v5, .int (v6 + 1), .int v7, .int v8, .int ((v8 : Int32) / 2), .int ((v8 : Int32) - (v8 : Int32) / 2 * 2)] (mx_da t_X10_game 49 rfl) rfl (by decide) rfl rfl rfl ?_
      refine mx_iload 7 (mx_da t_X10_game 50 rfl) rfl rfl ?_
      refine mx_iconst (v := (-1)) (mx_da t_X10_game 51 rfl) rfl rfl ?_
      refine mx_icmp_ne 109 (mx_da t_X10_game 52 rfl) rfl rfl (fun g9 => ?_) (fun g9 => ?_)
      · have h := h.1 g9
        refine mx_iload 7 (mx_da t_X10_game 59 rfl) rfl rfl ?_
        refine mx_istore 7 [.retAddr 0, .retAddr 0, .retAddr 0, .int v3, .int v4, .int v5, .int (v6 + 1), .int v7, .int v8, .int ((v8 : Int32) / 2), .int ((v8 : Int32) - (v8 : Int32) / 2 * 2)] (mx_da t_X10_game 60 rfl) rfl (by decide) rfl ?_
        refine mx_iinc 8 (v := v8 + 1) [.retAddr 0, .retAddr 0, .retAddr 0, .int v3, .int v4, .int v5, .int (v6 + 1), .int v7, .int (v8 + 1), .int ((v8 : Int32) / 2), .int ((v8 : Int32) - (v8 : Int32) / 2 * 2)] (mx_da t_X10_game 61 rfl) rfl (by decide) rfl rfl rfl ?_
        refine mx_goto (n := 58) (mx_da t_X10_game 62 rfl) rfl ?_
        exact mx_wkn [.retAddr 0, .retAddr 0, .retAddr 0, .int v3, .int v4, .int v5, .int (v6 + 1), .int v7, .int (v8 + 1), .retAddr 0, .retAddr 0] ⟨Or.inr rfl, Or.inr rfl, Or.inr rfl, Or.inr rfl, Or.inr rfl, Or.inr rfl, Or.inr rfl, Or.inr rfl, Or.inr rfl, Or.inl rfl, Or.inl rfl, trivial⟩ h
      · have h := h.2 g9
        refine mx_bipush (v := 10) (mx_da t_X10_game 53 rfl) rfl rfl ?_
        refine mx_iload 9 (mx_da t_X10_game 54 rfl) rfl rfl ?_
        refine mx_imul (mx_da t_X10_game 55 rfl) rfl ?_
        refine mx_iload 10 (mx_da t_X10_game 56 rfl) rfl rfl ?_
        refine mx_iadd (mx_da t_X10_game 57 rfl) rfl ?_
        refine mx_goto (n := 111) (mx_da t_X10_game 58 rfl) rfl ?_
        refine mx_istore 7 [.retAddr 0, .retAddr 0, .retAddr 0, .int v3, .int v4, .int v5, .int (v6 + 1), .int ((10 * ((v8 : Int32) / 2)) + ((v8 : Int32) - (v8 : Int32) / 2 * 2)), .int v8, .int ((v8 : Int32) / 2), .int ((v8 : Int32) - (v8 : Int32) / 2 * 2)] (mx_da t_X10_game 60 rfl) rfl (by decide) rfl ?_
        refine mx_iinc 8 (v := v8 + 1) [.retAddr 0, .retAddr 0, .retAddr 0, .int v3, .int v4, .int v5, .int (v6 + 1), .int ((10 * ((v8 : Int32) / 2)) + ((v8 : Int32) - (v8 : Int32) / 2 * 2)), .int (v8 + 1), .int ((v8 : Int32) / 2), .int ((v8 : Int32) - (v8 : Int32) / 2 * 2)] (mx_da t_X10_game 61 rfl) rfl (by decide) rfl rfl rfl ?_
        refine mx_goto (n := 58) (mx_da t_X10_game 62 rfl) rfl ?_
        exact mx_wkn [.retAddr 0, .retAddr 0, .retAddr 0, .int v3, .int v4, .int v5, .int (v6 + 1), .int ((10 * ((v8 : Int32) / 2)) + ((v8 : Int32) - (v8 : Int32) / 2 * 2)), .int (v8 + 1), .retAddr 0, .retAddr 0] ⟨Or.inr rfl, Or.inr rfl, Or.inr rfl, Or.inr rfl, Or.inr rfl, Or.inr rfl, Or.inr rfl, Or.inr rfl, Or.inr rfl, Or.inl rfl, Or.inl rfl, trivial⟩ h
set_option maxHeartbeats 1000000 in
theorem x_X10_couplesApartInDrawer_0 {d : Nat} {M : mx_M} {Q : mx_O → mx_M → Prop} (T : mx_Tp M) (t : Nat) (ht : mx_Cat t) (ht0 : mx_R M 1 10 = t) (v1 : Int32) (v2 : Int32)
    (h : mx_W m_X10_couplesApartInDrawer (d + 1) 5 [.ref 1, .int v1, .int v2, .int 0, .int 0, .retAddr 0] [] M Q) :
    mx_W m_X10_couplesApartInDrawer (d + 1) 0 [.ref 1, .int v1, .int v2, .retAddr 0, .retAddr 0, .retAddr 0] [] M Q := by
  refine mx_iconst (v := 0) (mx_da t_X10_couplesApartInDrawer 0 rfl) rfl rfl ?_
  refine mx_istore_n 3 [.ref 1, .int v1, .int v2, .int 0, .retAddr 0, .retAddr 0] (mx_da t_X10_couplesApartInDrawer 1 rfl) rfl rfl (by decide) rfl ?_
  refine mx_iconst (v := 0) (mx_da t_X10_couplesApartInDrawer 2 rfl) rfl rfl ?_
  refine mx_istore 4 [.ref 1, .int v1, .int v2, .int 0, .int 0, .retAddr 0] (mx_da t_X10_couplesApartInDrawer 3 rfl) rfl (by decide) rfl ?_
  exact h
set_option maxHeartbeats 1000000 in
theorem x_X10_couplesApartInDrawer_5 {d : Nat} {M : mx_M} {Q : mx_O → mx_M → Prop} (T : mx_Tp M) (t : Nat) (ht : mx_Cat t) (ht0 : mx_R M 1 10 = t) (v1 : Int32) (v2 : Int32) (v3 : Int32) (v4 : Int32)
    (h : (((mx_I M 31 1) ≤ v4 → Q (.inl (some (.int v3))) M) ∧ (¬ (mx_I M 31 1) ≤ v4 → mx_W m_X10_couplesApartInDrawer (d + 1) 23 [.ref 1, .int v1, .int v2, .int v3, .int v4, .int (v4 + 1)] [] M Q))) :
    mx_W m_X10_couplesApartInDrawer (d + 1) 5 [.ref 1, .int v1, .int v2, .int v3, .int v4, .retAddr 0] [] M Q := by
  refine mx_iload 4 (mx_da t_X10_couplesApartInDrawer 4 rfl) rfl rfl ?_
  refine mx_aload_n 0 (mx_da t_X10_couplesApartInDrawer 5 rfl) rfl rfl rfl rfl ?_
  refine mx_getR 31 fs_RX10_37 rfl (tp_s T 1 rfl) (tp_r T 30 rfl) (mx_da t_X10_couplesApartInDrawer 6 rfl) rfl ?_
  refine mx_getI fs_RX10_144 rfl (tp_s T 31 rfl) (mx_da t_X10_couplesApartInDrawer 7 rfl) rfl ?_
  refine mx_icmp_ge 79 (mx_da t_X10_couplesApartInDrawer 8 rfl) rfl rfl (fun g9 => ?_) (fun g9 => ?_)
  · have h := h.1 g9
    refine mx_iload_n 3 (mx_da t_X10_couplesApartInDrawer 38 rfl) rfl rfl rfl ?_
    exact mx_iret rfl (mx_da t_X10_couplesApartInDrawer 39 rfl) h
  · have h := h.2 g9
    refine mx_iload 4 (mx_da t_X10_couplesApartInDrawer 9 rfl) rfl rfl ?_
    refine mx_iconst (v := 1) (mx_da t_X10_couplesApartInDrawer 10 rfl) rfl rfl ?_
    refine mx_iadd (mx_da t_X10_couplesApartInDrawer 11 rfl) rfl ?_
    refine mx_istore 5 [.ref 1, .int v1, .int v2, .int v3, .int v4, .int (v4 + 1)] (mx_da t_X10_couplesApartInDrawer 12 rfl) rfl (by decide) rfl ?_
    exact h
set_option maxHeartbeats 1000000 in
theorem x_X10_couplesApartInDrawer_23 {d : Nat} {M : mx_M} {Q : mx_O → mx_M → Prop} (T : mx_Tp M) (t : Nat) (ht : mx_Cat t) (ht0 : mx_R M 1 10 = t) (v1 : Int32) (v2 : Int32) (v3 : Int32) (v4 : Int32) (v5 : Int32)
    (h : (((mx_I M 31 1) ≤ v5 → mx_W m_X10_couplesApartInDrawer (d + 1) 5 [.ref 1, .int v1, .int v2, .int v3, .int (v4 + 1), .retAddr 0] [] M Q) ∧ (¬ (mx_I M 31 1) ≤ v5 → (vp_in v4 10 ∧ (vp_in v5 10 ∧ (mx_W m_X10_isApart d 0 [.ref 1, .int v1, .int v2, .int (mx_I M 32 v4.toNatClampNeg), .int (mx_I M 32 v5.toNatClampNeg)] [] M (fun o M1 => mx_sh M1 = mx_sh M ∧ mx_R M1 = mx_R M ∧ (∃ x2 : Bool, o = .inl (some (.int (mx_b x2))) ∧ ((x2 = false → mx_W m_X10_couplesApartInDrawer (d + 1) 23 [.ref 1, .int v1, .int v2, .int v3, .int v4, .int (v5 + 1)] [] M1 Q) ∧ (x2 = true → mx_W m_X10_couplesApartInDrawer (d + 1) 23 [.ref 1, .int v1, .int v2, .int (v3 + 1), .int v4, .int (v5 + 1)] [] M1 Q)))))))))) :
    mx_W m_X10_couplesApartInDrawer (d + 1) 23 [.ref 1, .int v1, .int v2, .int v3, .int v4, .int v5] [] M Q := by
  refine mx_iload 5 (mx_da t_X10_couplesApartInDrawer 13 rfl) rfl rfl ?_
  refine mx_aload_n 0 (mx_da t_X10_couplesApartInDrawer 14 rfl) rfl rfl rfl rfl ?_
  refine mx_getR 31 fs_RX10_37 rfl (tp_s T 1 rfl) (tp_r T 30 rfl) (mx_da t_X10_couplesApartInDrawer 15 rfl) rfl ?_
  refine mx_getI fs_RX10_144 rfl (tp_s T 31 rfl) (mx_da t_X10_couplesApartInDrawer 16 rfl) rfl ?_
  refine mx_icmp_ge 73 (mx_da t_X10_couplesApartInDrawer 17 rfl) rfl rfl (fun g9 => ?_) (fun g9 => ?_)
  · have h := h.1 g9
    refine mx_iinc 4 (v := v4 + 1) [.ref 1, .int v1, .int v2, .int v3, .int (v4 + 1), .int v5] (mx_da t_X10_couplesApartInDrawer 36 rfl) rfl (by decide) rfl rfl rfl ?_
    refine mx_goto (n := 5) (mx_da t_X10_couplesApartInDrawer 37 rfl) rfl ?_
    exact mx_wkn [.ref 1, .int v1, .int v2, .int v3, .int (v4 + 1), .retAddr 0] ⟨Or.inr rfl, Or.inr rfl, Or.inr rfl, Or.inr rfl, Or.inr rfl, Or.inl rfl, trivial⟩ h
  · have h := h.2 g9
    refine mx_aload_n 0 (mx_da t_X10_couplesApartInDrawer 18 rfl) rfl rfl rfl rfl ?_
    refine mx_iload_n 1 (mx_da t_X10_couplesApartInDrawer 19 rfl) rfl rfl rfl ?_
    refine mx_iload_n 2 (mx_da t_X10_couplesApartInDrawer 20 rfl) rfl rfl rfl ?_
    refine mx_aload_n 0 (mx_da t_X10_couplesApartInDrawer 21 rfl) rfl rfl rfl rfl ?_
    refine mx_getR 31 fs_RX10_37 rfl (tp_s T 1 rfl) (tp_r T 30 rfl) (mx_da t_X10_couplesApartInDrawer 22 rfl) rfl ?_
    refine mx_getR 32 fs_RX10_247 rfl (tp_s T 31 rfl) (tp_r T 29 rfl) (mx_da t_X10_couplesApartInDrawer 23 rfl) rfl ?_
    refine mx_iload 4 (mx_da t_X10_couplesApartInDrawer 24 rfl) rfl rfl ?_
    refine mx_iald (tp_s T 32 rfl) h.1 (mx_da t_X10_couplesApartInDrawer 25 rfl) rfl ?_
    have h := h.2
    refine mx_aload_n 0 (mx_da t_X10_couplesApartInDrawer 26 rfl) rfl rfl rfl rfl ?_
    refine mx_getR 31 fs_RX10_37 rfl (tp_s T 1 rfl) (tp_r T 30 rfl) (mx_da t_X10_couplesApartInDrawer 27 rfl) rfl ?_
    refine mx_getR 32 fs_RX10_247 rfl (tp_s T 31 rfl) (tp_r T 29 rfl) (mx_da t_X10_couplesApartInDrawer 28 rfl) rfl ?_
    refine mx_iload 5 (mx_da t_X10_couplesApartInDrawer 29 rfl) rfl rfl ?_
    refine mx_iald (tp_s T 32 rfl) h.1 (mx_da t_X10_couplesApartInDrawer 30 rfl) rfl ?_
    have h := h.2
    refine mx_callV yX10_isApart m_X10_isApart [.int v1, .int v2, .int (mx_I M 32 v4.toNatClampNeg), .int (mx_I M 32 v5.toNatClampNeg)] mm_X10_isApart ml_RX10_296 im_X10_isApart se_X10_isApart (tp_s T 1 rfl) rfl rfl (Nat.le_of_ble_eq_true rfl) (mx_da t_X10_couplesApartInDrawer 31 rfl) rfl (Nat.le_of_ble_eq_true rfl) rfl ?_
    refine mx_mono h ?_
    intro o M1 ho
    obtain ⟨e1, e2, ho⟩ := ho
    obtain ⟨x2, rfl, h⟩ := ho
    refine ⟨e1, ?_⟩
    have T := tp_of e1 e2 T
    have ht0 := (congrFun (congrFun e2 1) 10).trans ht0
    clear e1 e2
    show mx_W m_X10_couplesApartInDrawer (d + 1) 61 [.ref 1, .int v1, .int v2, .int v3, .int v4, .int v5] [.int (mx_b x2)] M1 Q
    refine mx_if_eq 67 (mx_da t_X10_couplesApartInDrawer 32 rfl) rfl rfl (fun g9 => ?_) (fun g9 => ?_)
    · have h := h.1 (mx_b0.mp g9)
      refine mx_iinc 5 (v := v5 + 1) [.ref 1, .int v1, .int v2, .int v3, .int v4, .int (v5 + 1)] (mx_da t_X10_couplesApartInDrawer 34 rfl) rfl (by decide) rfl rfl rfl ?_
      refine mx_goto (n := 23) (mx_da t_X10_couplesApartInDrawer 35 rfl) rfl ?_
      exact h
    · have h := h.2 (mx_bn.mp g9)
      refine mx_iinc 3 (v := v3 + 1) [.ref 1, .int v1, .int v2, .int (v3 + 1), .int v4, .int v5] (mx_da t_X10_couplesApartInDrawer 33 rfl) rfl (by decide) rfl rfl rfl ?_
      refine mx_iinc 5 (v := v5 + 1) [.ref 1, .int v1, .int v2, .int (v3 + 1), .int v4, .int (v5 + 1)] (mx_da t_X10_couplesApartInDrawer 34 rfl) rfl (by decide) rfl rfl rfl ?_
      refine mx_goto (n := 23) (mx_da t_X10_couplesApartInDrawer 35 rfl) rfl ?_
      exact h
set_option maxHeartbeats 1000000 in
theorem x_X10_rests_0 {d : Nat} {M : mx_M} {Q : mx_O → mx_M → Prop} (T : mx_Tp M) (t : Nat) (ht : mx_Cat t) (ht0 : mx_R M 1 10 = t) (v0 : Int32) (v1 : Int32) (v2 : Int32) (v3 : Int32)
    (h : (mx_W m_X10_loss d 0 [.int 0, .int v0, .int v1, .int v2, .int v3] [] M (fun o M1 => mx_sh M1 = mx_sh M ∧ mx_R M1 = mx_R M ∧ (∃ x2 : Int32, o = .inl (some (.int x2)) ∧ (mx_W m_X10_loss d 0 [.int 0, .int (1 - v0), .int v1, .int v2, .int v3] [] M1 (fun o M3 => mx_sh M3 = mx_sh M1 ∧ mx_R M3 = mx_R M1 ∧ (∃ x4 : Int32, o = .inl (some (.int x4)) ∧ ((x4 < x2 → Q (.inl (some (.int (mx_b false)))) M3) ∧ (¬ x4 < x2 → (mx_W m_X10_loss d 0 [.int 1, .int v0, .int v1, .int v2, .int v3] [] M3 (fun o M5 => mx_sh M5 = mx_sh M3 ∧ mx_R M5 = mx_R M3 ∧ (∃ x6 : Int32, o = .inl (some (.int x6)) ∧ (mx_W m_X10_loss d 0 [.int 1, .int v0, .int (1 - v1), .int v2, .int v3] [] M5 (fun o M7 => mx_sh M7 = mx_sh M5 ∧ mx_R M7 = mx_R M5 ∧ (∃ x8 : Int32, o = .inl (some (.int x8)) ∧ ((x8 < x6 → Q (.inl (some (.int (mx_b false)))) M7) ∧ (¬ x8 < x6 → Q (.inl (some (.int (mx_b true)))) M7))))))))))))))))) :
    mx_W m_X10_rests (d + 1) 0 [.int v0, .int v1, .int v2, .int v3] [] M Q := by
  refine mx_iconst (v := 0) (mx_da t_X10_rests 0 rfl) rfl rfl ?_
  refine mx_iload_n 0 (mx_da t_X10_rests 1 rfl) rfl rfl rfl ?_
  refine mx_iload_n 1 (mx_da t_X10_rests 2 rfl) rfl rfl rfl ?_
  refine mx_iload_n 2 (mx_da t_X10_rests 3 rfl) rfl rfl rfl ?_
  refine mx_iload_n 3 (mx_da t_X10_rests 4 rfl) rfl rfl rfl ?_
  refine mx_callS yX10_loss m_X10_loss [.int 0, .int v0, .int v1, .int v2, .int v3] mm_X10_loss ml_RX10_397 st_X10_loss rfl (Nat.le_of_ble_eq_true rfl) (mx_da t_X10_rests 5 rfl) rfl (Nat.le_of_ble_eq_true rfl) rfl ?_
  refine mx_mono h ?_
  intro o M1 ho
  obtain ⟨e1, e2, ho⟩ := ho
  obtain ⟨x2, rfl, h⟩ := ho
  refine ⟨e1, ?_⟩
  have T := tp_of e1 e2 T
  have ht0 := (congrFun (congrFun e2 1) 10).trans ht0
  clear e1 e2
  show mx_W m_X10_rests (d + 1) 8 [.int v0, .int v1, .int v2, .int v3] [.int x2] M1 Q
  refine mx_iconst (v := 0) (mx_da t_X10_rests 6 rfl) rfl rfl ?_
  refine mx_iconst (v := 1) (mx_da t_X10_rests 7 rfl) rfl rfl ?_
  refine mx_iload_n 0 (mx_da t_X10_rests 8 rfl) rfl rfl rfl ?_
  refine mx_isub (mx_da t_X10_rests 9 rfl) rfl ?_
  refine mx_iload_n 1 (mx_da t_X10_rests 10 rfl) rfl rfl rfl ?_
  refine mx_iload_n 2 (mx_da t_X10_rests 11 rfl) rfl rfl rfl ?_
  refine mx_iload_n 3 (mx_da t_X10_rests 12 rfl) rfl rfl rfl ?_
  refine mx_callS yX10_loss m_X10_loss [.int 0, .int (1 - v0), .int v1, .int v2, .int v3] mm_X10_loss ml_RX10_397 st_X10_loss rfl (Nat.le_of_ble_eq_true rfl) (mx_da t_X10_rests 13 rfl) rfl (Nat.le_of_ble_eq_true rfl) rfl ?_
  refine mx_mono h ?_
  intro o M3 ho
  obtain ⟨e1, e2, ho⟩ := ho
  obtain ⟨x4, rfl, h⟩ := ho
  refine ⟨e1, ?_⟩
  have T := tp_of e1 e2 T
  have ht0 := (congrFun (congrFun e2 1) 10).trans ht0
  clear e1 e2
  show mx_W m_X10_rests (d + 1) 18 [.int v0, .int v1, .int v2, .int v3] [.int x4, .int x2] M3 Q
  refine mx_icmp_gt 46 (mx_da t_X10_rests 14 rfl) rfl rfl (fun g9 => ?_) (fun g9 => ?_)
  · have h := h.1 g9
    refine mx_iconst (v := 0) (mx_da t_X10_rests 32 rfl) rfl rfl ?_
    exact mx_zret rfl rfl (mx_da t_X10_rests 33 rfl) h
  · have h := h.2 g9
    refine mx_iconst (v := 1) (mx_da t_X10_rests 15 rfl) rfl rfl ?_
    refine mx_iload_n 0 (mx_da t_X10_rests 16 rfl) rfl rfl rfl ?_
    refine mx_iload_n 1 (mx_da t_X10_rests 17 rfl) rfl rfl rfl ?_
    refine mx_iload_n 2 (mx_da t_X10_rests 18 rfl) rfl rfl rfl ?_
    refine mx_iload_n 3 (mx_da t_X10_rests 19 rfl) rfl rfl rfl ?_
    refine mx_callS yX10_loss m_X10_loss [.int 1, .int v0, .int v1, .int v2, .int v3] mm_X10_loss ml_RX10_397 st_X10_loss rfl (Nat.le_of_ble_eq_true rfl) (mx_da t_X10_rests 20 rfl) rfl (Nat.le_of_ble_eq_true rfl) rfl ?_
    refine mx_mono h ?_
    intro o M5 ho
    obtain ⟨e1, e2, ho⟩ := ho
    obtain ⟨x6, rfl, h⟩ := ho
    refine ⟨e1, ?_⟩
    have T := tp_of e1 e2 T
    have ht0 := (congrFun (congrFun e2 1) 10).trans ht0
    clear e1 e2
    show mx_W m_X10_rests (d + 1) 29 [.int v0, .int v1, .int v2, .int v3] [.int x6] M5 Q
    refine mx_iconst (v := 1) (mx_da t_X10_rests 21 rfl) rfl rfl ?_
    refine mx_iload_n 0 (mx_da t_X10_rests 22 rfl) rfl rfl rfl ?_
    refine mx_iconst (v := 1) (mx_da t_X10_rests 23 rfl) rfl rfl ?_
    refine mx_iload_n 1 (mx_da t_X10_rests 24 rfl) rfl rfl rfl ?_
    refine mx_isub (mx_da t_X10_rests 25 rfl) rfl ?_
    refine mx_iload_n 2 (mx_da t_X10_rests 26 rfl) rfl rfl rfl ?_
    refine mx_iload_n 3 (mx_da t_X10_rests 27 rfl) rfl rfl rfl ?_
    refine mx_callS yX10_loss m_X10_loss [.int 1, .int v0, .int (1 - v1), .int v2, .int v3] mm_X10_loss ml_RX10_397 st_X10_loss rfl (Nat.le_of_ble_eq_true rfl) (mx_da t_X10_rests 28 rfl) rfl (Nat.le_of_ble_eq_true rfl) rfl ?_
    refine mx_mono h ?_
    intro o M7 ho
    obtain ⟨e1, e2, ho⟩ := ho
    obtain ⟨x8, rfl, h⟩ := ho
    refine ⟨e1, ?_⟩
    have T := tp_of e1 e2 T
    have ht0 := (congrFun (congrFun e2 1) 10).trans ht0
    clear e1 e2
    show mx_W m_X10_rests (d + 1) 39 [.int v0, .int v1, .int v2, .int v3] [.int x8, .int x6] M7 Q
    refine mx_icmp_gt 46 (mx_da t_X10_rests 29 rfl) rfl rfl (fun g9 => ?_) (fun g9 => ?_)
    · have h := h.1 g9
      refine mx_iconst (v := 0) (mx_da t_X10_rests 32 rfl) rfl rfl ?_
      exact mx_zret rfl rfl (mx_da t_X10_rests 33 rfl) h
    · have h := h.2 g9
      refine mx_iconst (v := 1) (mx_da t_X10_rests 30 rfl) rfl rfl ?_
      refine mx_goto (n := 47) (mx_da t_X10_rests 31 rfl) rfl ?_
      exact mx_zret rfl rfl (mx_da t_X10_rests 33 rfl) h
set_option maxHeartbeats 1000000 in
theorem x_X10_loss_0 {d : Nat} {M : mx_M} {Q : mx_O → mx_M → Prop} (T : mx_Tp M) (t : Nat) (ht : mx_Cat t) (ht0 : mx_R M 1 10 = t) (v0 : Int32) (v1 : Int32) (v2 : Int32) (v3 : Int32) (v4 : Int32)
    (h : ((v1 = v2 → ((¬ v1 = v0 → Q (.inl (some (.int v3))) M) ∧ (v1 = v0 → Q (.inl (some (.int 0))) M))) ∧ (¬ v1 = v2 → Q (.inl (some (.int v4))) M))) :
    mx_W m_X10_loss d 0 [.int v0, .int v1, .int v2, .int v3, .int v4] [] M Q := by
  refine mx_iload_n 1 (mx_da t_X10_loss 0 rfl) rfl rfl rfl ?_
  refine mx_iload_n 2 (mx_da t_X10_loss 1 rfl) rfl rfl rfl ?_
  refine mx_icmp_eq 8 (mx_da t_X10_loss 2 rfl) rfl rfl (fun g9 => ?_) (fun g9 => ?_)
  · have h := h.1 g9
    refine mx_iload_n 1 (mx_da t_X10_loss 5 rfl) rfl rfl rfl ?_
    refine mx_iload_n 0 (mx_da t_X10_loss 6 rfl) rfl rfl rfl ?_
    refine mx_icmp_ne 17 (mx_da t_X10_loss 7 rfl) rfl rfl (fun g9 => ?_) (fun g9 => ?_)
    · have h := h.1 g9
      refine mx_iload_n 3 (mx_da t_X10_loss 10 rfl) rfl rfl rfl ?_
      exact mx_iret rfl (mx_da t_X10_loss 11 rfl) h
    · have h := h.2 g9
      refine mx_iconst (v := 0) (mx_da t_X10_loss 8 rfl) rfl rfl ?_
      refine mx_goto (n := 18) (mx_da t_X10_loss 9 rfl) rfl ?_
      exact mx_iret rfl (mx_da t_X10_loss 11 rfl) h
  · have h := h.2 g9
    refine mx_iload 4 (mx_da t_X10_loss 3 rfl) rfl rfl ?_
    exact mx_iret rfl (mx_da t_X10_loss 4 rfl) h
set_option maxHeartbeats 1000000 in
theorem x_X10_years_0 {d : Nat} {M : mx_M} {Q : mx_O → mx_M → Prop} (T : mx_Tp M) (t : Nat) (ht : mx_Cat t) (ht0 : mx_R M 1 10 = t) (v1 : Int32) (v2 : Int32) (v3 : Int32)
    (h : ((v3 < 0 → (1 ≤ (mx_rm M).1 ∧ 6 ≤ (mx_rm M).2 ∧ Q (.inr "java/util/NoSuchElementException") (mx_thM M))) ∧ (¬ v3 < 0 → ((v3 ≤ (2 : Int32) → ((v2 < 0 → (1 ≤ (mx_rm M).1 ∧ 6 ≤ (mx_rm M).2 ∧ Q (.inr "java/lang/IllegalArgumentException") (mx_thM M))) ∧ (¬ v2 < 0 → ((v2 ≤ (60 : Int32) → (mx_W m_X5_copy d 0 [.ref 33, .ref 31] [] M (fun o M1 => mx_sh M1 = mx_sh M ∧ mx_R M1 = mx_R M ∧ (o = .inl none ∧ (((mx_I M1 t 12) = 0 → ((¬ v3 = 0 → ((¬ v3 = (1 : Int32) → ((¬ (mx_I M1 t 13) = 0 → (mx_W m_X5_wrongBy d 0 [.ref 33, .ref 24, .int 0, .retAddr 0, .retAddr 0, .retAddr 0] [] M1 (fun o M2 => mx_sh M2 = mx_sh M1 ∧ mx_R M2 = mx_R M1 ∧ (∃ x3 : Int32, o = .inl (some (.int x3)) ∧ Q (.inl (some (.int x3))) M2)))) ∧ ((mx_I M1 t 13) = 0 → Q (.inl (some (.int 0))) M1))) ∧ (v3 = (1 : Int32) → Q (.inl (some (.int (mx_I M1 33 1)))) M1))) ∧ (v3 = 0 → Q (.inl (some (.int 0))) M1))) ∧ (¬ (mx_I M1 t 12) = 0 → ((¬ (mx_I M1 t 13) = 0 → (mx_W m_X10_missedInYears d 0 [.ref 1, .int v1, .int v2, .retAddr 0, .retAddr 0, .retAddr 0, .retAddr 0, .retAddr 0, .retAddr 0] [] M1 (fun o M4 => mx_sh M4 = mx_sh M1 ∧ mx_R M4 = mx_R M1 ∧ (∃ x5 : Int32, o = .inl (some (.int x5)) ∧ ((¬ v3 = 0 → ((¬ v3 = (1 : Int32) → ((¬ (mx_I M4 t 13) = 0 → (mx_W m_X5_wrongBy d 0 [.ref 33, .ref 24, .int 0, .retAddr 0, .retAddr 0, .retAddr 0] [] M4 (fun o M6 => mx_sh M6 = mx_sh M4 ∧ mx_R M6 = mx_R M4 ∧ (∃ x7 : Int32, o = .inl (some (.int x7)) ∧ Q (.inl (some (.int x7))) M6)))) ∧ ((mx_I M4 t 13) = 0 → Q (.inl (some (.int 0))) M4))) ∧ (v3 = (1 : Int32) → Q (.inl (some (.int (mx_I M4 33 1)))) M4))) ∧ (v3 = 0 → Q (.inl (some (.int x5))) M4)))))) ∧ ((mx_I M1 t 13) = 0 → ((¬ v3 = 0 → ((¬ v3 = (1 : Int32) → ((¬ (mx_I M1 t 13) = 0 → (mx_W m_X5_wrongBy d 0 [.ref 33, .ref 24, .int 0, .retAddr 0, .retAddr 0, .retAddr 0] [] M1 (fun o M8 => mx_sh M8 = mx_sh M1 ∧ mx_R M8 = mx_R M1 ∧ (∃ x9 : Int32, o = .inl (some (.int x9)) ∧ Q (.inl (some (.int x9))) M8)))) ∧ ((mx_I M1 t 13) = 0 → Q (.inl (some (.int 0))) M1))) ∧ (v3 = (1 : Int32) → Q (.inl (some (.int (mx_I M1 33 1)))) M1))) ∧ (v3 = 0 → Q (.inl (some (.int 0))) M1)))))))))) ∧ (¬ v2 ≤ (60 : Int32) → (1 ≤ (mx_rm M).1 ∧ 6 ≤ (mx_rm M).2 ∧ Q (.inr "java/lang/IllegalArgumentException") (mx_thM M))))))) ∧ (¬ v3 ≤ (2 : Int32) → (1 ≤ (mx_rm M).1 ∧ 6 ≤ (mx_rm M).2 ∧ Q (.inr "java/util/NoSuchElementException") (mx_thM M))))))) :
    mx_W m_X10_years (d + 1) 0 [.ref 1, .int v1, .int v2, .int v3, .retAddr 0] [] M Q := by
  refine mx_iload_n 3 (mx_da t_X10_years 0 rfl) rfl rfl rfl ?_
  refine mx_if_lt 9 (mx_da t_X10_years 1 rfl) rfl rfl (fun g9 => ?_) (fun g9 => ?_)
  · have h := h.1 g9
    exact mx_thrN 24 155 225 2 rfl (by decide) rfl cl_155 in_NSE (mx_da t_X10_years 5 rfl) (mx_da t_X10_years 6 rfl) (Or.inl ⟨rfl, (mx_da t_X10_years 7 rfl)⟩) (mx_da t_X10_years 8 rfl) (mx_da t_X10_years 9 rfl) rfl (by decide) h.1 h.2.1 h.2.2
  · have h := h.2 g9
    refine mx_iload_n 3 (mx_da t_X10_years 2 rfl) rfl rfl rfl ?_
    refine mx_iconst (v := 2) (mx_da t_X10_years 3 rfl) rfl rfl ?_
    refine mx_icmp_le 19 (mx_da t_X10_years 4 rfl) rfl rfl (fun g9 => ?_) (fun g9 => ?_)
    · have h := h.1 g9
      refine mx_iload_n 2 (mx_da t_X10_years 10 rfl) rfl rfl rfl ?_
      refine mx_if_lt 29 (mx_da t_X10_years 11 rfl) rfl rfl (fun g9 => ?_) (fun g9 => ?_)
      · have h := h.1 g9
        exact mx_throwW "java/lang/IllegalArgumentException" 29 109 401 113 (by decide) rfl (by decide +kernel) cl_109 in_IAE th_113.1 th_113.2 (mx_da t_X10_years 15 rfl) (mx_da t_X10_years 16 rfl) (mx_da t_X10_years 17 rfl) (mx_da t_X10_years 18 rfl) (mx_da t_X10_years 19 rfl) rfl (by decide) h.1 h.2.1 h.2.2
      · have h := h.2 g9
        refine mx_iload_n 2 (mx_da t_X10_years 12 rfl) rfl rfl rfl ?_
        refine mx_bipush (v := 60) (mx_da t_X10_years 13 rfl) rfl rfl ?_
        refine mx_icmp_le 40 (mx_da t_X10_years 14 rfl) rfl rfl (fun g9 => ?_) (fun g9 => ?_)
        · have h := h.1 g9
          refine mx_aload_n 0 (mx_da t_X10_years 20 rfl) rfl rfl rfl rfl ?_
          refine mx_getR 33 fs_RX10_41 rfl (tp_s T 1 rfl) (tp_r T 32 rfl) (mx_da t_X10_years 21 rfl) rfl ?_
          refine mx_aload_n 0 (mx_da t_X10_years 22 rfl) rfl rfl rfl rfl ?_
          refine mx_getR 31 fs_RX10_37 rfl (tp_s T 1 rfl) (tp_r T 30 rfl) (mx_da t_X10_years 23 rfl) rfl ?_
          refine mx_callV yX5_copy m_X5_copy [.ref 31] mm_X5_copy ml_RX10_270 im_X5_copy se_X5_copy (tp_s T 33 rfl) rfl rfl (Nat.le_of_ble_eq_true rfl) (mx_da t_X10_years 24 rfl) rfl (Nat.le_of_ble_eq_true rfl) rfl ?_
          refine mx_mono h ?_
          intro o M1 ho
          obtain ⟨e1, e2, ho⟩ := ho
          obtain ⟨rfl, h⟩ := ho
          refine ⟨e1, ?_⟩
          have T := tp_of e1 e2 T
          have ht0 := (congrFun (congrFun e2 1) 10).trans ht0
          clear e1 e2
          show mx_W m_X10_years (d + 1) 51 [.ref 1, .int v1, .int v2, .int v3, .retAddr 0] [] M1 Q
          refine mx_aload_n 0 (mx_da t_X10_years 25 rfl) rfl rfl rfl rfl ?_
          refine mx_getR t fs_RX10_71 rfl (tp_s T 1 rfl) ht0 (mx_da t_X10_years 26 rfl) rfl ?_
          refine mx_getI fs_RX10_148 rfl (cat_s T ht) (mx_da t_X10_years 27 rfl) rfl ?_
          refine mx_if_eq 71 (mx_da t_X10_years 28 rfl) rfl rfl (fun g9 => ?_) (fun g9 => ?_)
          · have h := h.1 g9
            refine mx_iconst (v := 0) (mx_da t_X10_years 33 rfl) rfl rfl ?_
            refine mx_goto (n := 81) (mx_da t_X10_years 34 rfl) rfl ?_
            refine mx_istore 4 [.ref 1, .int v1, .int v2, .int v3, .int 0] (mx_da t_X10_years 39 rfl) rfl (by decide) rfl ?_
            refine mx_iload_n 3 (mx_da t_X10_years 40 rfl) rfl rfl rfl ?_
            refine mx_if_ne 90 (mx_da t_X10_years 41 rfl) rfl rfl (fun g9 => ?_) (fun g9 => ?_)
            · have h := h.1 g9
              refine mx_iload_n 3 (mx_da t_X10_years 44 rfl) rfl rfl rfl ?_
              refine mx_iconst (v := 1) (mx_da t_X10_years 45 rfl) rfl rfl ?_
              refine mx_icmp_ne 103 (mx_da t_X10_years 46 rfl) rfl rfl (fun g9 => ?_) (fun g9 => ?_)
              · have h := h.1 g9
                refine mx_aload_n 0 (mx_da t_X10_years 51 rfl) rfl rfl rfl rfl ?_
                refine mx_getR t fs_RX10_71 rfl (tp_s T 1 rfl) ht0 (mx_da t_X10_years 52 rfl) rfl ?_
                refine mx_getI fs_RX10_130 rfl (cat_s T ht) (mx_da t_X10_years 53 rfl) rfl ?_
                refine mx_if_ne 117 (mx_da t_X10_years 54 rfl) rfl rfl (fun g9 => ?_) (fun g9 => ?_)
                · have h := h.1 g9
                  refine mx_aload_n 0 (mx_da t_X10_years 57 rfl) rfl rfl rfl rfl ?_
                  refine mx_getR 33 fs_RX10_41 rfl (tp_s T 1 rfl) (tp_r T 32 rfl) (mx_da t_X10_years 58 rfl) rfl ?_
                  refine mx_aload_n 0 (mx_da t_X10_years 59 rfl) rfl rfl rfl rfl ?_
                  refine mx_getR 24 fs_RX10_30 rfl (tp_s T 1 rfl) (tp_r T 28 rfl) (mx_da t_X10_years 60 rfl) rfl ?_
                  refine mx_iconst (v := 0) (mx_da t_X10_years 61 rfl) rfl rfl ?_
                  refine mx_callV yX5_wrongBy m_X5_wrongBy [.ref 24, .int 0] mm_X5_wrongBy ml_RX10_200 im_X5_wrongBy se_X5_wrongBy (tp_s T 33 rfl) rfl rfl (Nat.le_of_ble_eq_true rfl) (mx_da t_X10_years 62 rfl) rfl (Nat.le_of_ble_eq_true rfl) rfl ?_
                  refine mx_mono h ?_
                  intro o M2 ho
                  obtain ⟨e1, e2, ho⟩ := ho
                  obtain ⟨x3, rfl, h⟩ := ho
                  refine ⟨e1, ?_⟩
                  have T := tp_of e1 e2 T
                  have ht0 := (congrFun (congrFun e2 1) 10).trans ht0
                  clear e1 e2
                  show mx_W m_X10_years (d + 1) 129 [.ref 1, .int v1, .int v2, .int v3, .int 0] [.int x3] M2 Q
                  exact mx_iret rfl (mx_da t_X10_years 63 rfl) h
                · have h := h.2 g9
                  refine mx_iconst (v := 0) (mx_da t_X10_years 55 rfl) rfl rfl ?_
                  refine mx_goto (n := 129) (mx_da t_X10_years 56 rfl) rfl ?_
                  exact mx_iret rfl (mx_da t_X10_years 63 rfl) h
              · have h := h.2 g9
                refine mx_aload_n 0 (mx_da t_X10_years 47 rfl) rfl rfl rfl rfl ?_
                refine mx_getR 33 fs_RX10_41 rfl (tp_s T 1 rfl) (tp_r T 32 rfl) (mx_da t_X10_years 48 rfl) rfl ?_
                refine mx_getI fs_RX10_144 rfl (tp_s T 33 rfl) (mx_da t_X10_years 49 rfl) rfl ?_
                exact mx_iret rfl (mx_da t_X10_years 50 rfl) h
            · have h := h.2 g9
              refine mx_iload 4 (mx_da t_X10_years 42 rfl) rfl rfl ?_
              exact mx_iret rfl (mx_da t_X10_years 43 rfl) h
          · have h := h.2 g9
            refine mx_aload_n 0 (mx_da t_X10_years 29 rfl) rfl rfl rfl rfl ?_
            refine mx_getR t fs_RX10_71 rfl (tp_s T 1 rfl) ht0 (mx_da t_X10_years 30 rfl) rfl ?_
            refine mx_getI fs_RX10_130 rfl (cat_s T ht) (mx_da t_X10_years 31 rfl) rfl ?_
            refine mx_if_ne 75 (mx_da t_X10_years 32 rfl) rfl rfl (fun g9 => ?_) (fun g9 => ?_)
            · have h := h.1 g9
              refine mx_aload_n 0 (mx_da t_X10_years 35 rfl) rfl rfl rfl rfl ?_
              refine mx_iload_n 1 (mx_da t_X10_years 36 rfl) rfl rfl rfl ?_
              refine mx_iload_n 2 (mx_da t_X10_years 37 rfl) rfl rfl rfl ?_
              refine mx_callV yX10_missedInYears m_X10_missedInYears [.int v1, .int v2] mm_X10_missedInYears ml_RX10_403 im_X10_missedInYears se_X10_missedInYears (tp_s T 1 rfl) rfl rfl (Nat.le_of_ble_eq_true rfl) (mx_da t_X10_years 38 rfl) rfl (Nat.le_of_ble_eq_true rfl) rfl ?_
              refine mx_mono h ?_
              intro o M4 ho
              obtain ⟨e1, e2, ho⟩ := ho
              obtain ⟨x5, rfl, h⟩ := ho
              refine ⟨e1, ?_⟩
              have T := tp_of e1 e2 T
              have ht0 := (congrFun (congrFun e2 1) 10).trans ht0
              clear e1 e2
              show mx_W m_X10_years (d + 1) 81 [.ref 1, .int v1, .int v2, .int v3, .retAddr 0] [.int x5] M4 Q
              refine mx_istore 4 [.ref 1, .int v1, .int v2, .int v3, .int x5] (mx_da t_X10_years 39 rfl) rfl (by decide) rfl ?_
              refine mx_iload_n 3 (mx_da t_X10_years 40 rfl) rfl rfl rfl ?_
              refine mx_if_ne 90 (mx_da t_X10_years 41 rfl) rfl rfl (fun g9 => ?_) (fun g9 => ?_)
              · have h := h.1 g9
                refine mx_iload_n 3 (mx_da t_X10_years 44 rfl) rfl rfl rfl ?_
                refine mx_iconst (v := 1) (mx_da t_X10_years 45 rfl) rfl rfl ?_
                refine mx_icmp_ne 103 (mx_da t_X10_years 46 rfl) rfl rfl (fun g9 => ?_) (fun g9 => ?_)
                · have h := h.1 g9
                  refine mx_aload_n 0 (mx_da t_X10_years 51 rfl) rfl rfl rfl rfl ?_
                  refine mx_getR t fs_RX10_71 rfl (tp_s T 1 rfl) ht0 (mx_da t_X10_years 52 rfl) rfl ?_
                  refine mx_getI fs_RX10_130 rfl (cat_s T ht) (mx_da t_X10_years 53 rfl) rfl ?_
                  refine mx_if_ne 117 (mx_da t_X10_years 54 rfl) rfl rfl (fun g9 => ?_) (fun g9 => ?_)
                  · have h := h.1 g9
                    refine mx_aload_n 0 (mx_da t_X10_years 57 rfl) rfl rfl rfl rfl ?_
                    refine mx_getR 33 fs_RX10_41 rfl (tp_s T 1 rfl) (tp_r T 32 rfl) (mx_da t_X10_years 58 rfl) rfl ?_
                    refine mx_aload_n 0 (mx_da t_X10_years 59 rfl) rfl rfl rfl rfl ?_
                    refine mx_getR 24 fs_RX10_30 rfl (tp_s T 1 rfl) (tp_r T 28 rfl) (mx_da t_X10_years 60 rfl) rfl ?_
                    refine mx_iconst (v := 0) (mx_da t_X10_years 61 rfl) rfl rfl ?_
                    refine mx_callV yX5_wrongBy m_X5_wrongBy [.ref 24, .int 0] mm_X5_wrongBy ml_RX10_200 im_X5_wrongBy se_X5_wrongBy (tp_s T 33 rfl) rfl rfl (Nat.le_of_ble_eq_true rfl) (mx_da t_X10_years 62 rfl) rfl (Nat.le_of_ble_eq_true rfl) rfl ?_
                    refine mx_mono h ?_
                    intro o M6 ho
                    obtain ⟨e1, e2, ho⟩ := ho
                    obtain ⟨x7, rfl, h⟩ := ho
                    refine ⟨e1, ?_⟩
                    have T := tp_of e1 e2 T
                    have ht0 := (congrFun (congrFun e2 1) 10).trans ht0
                    clear e1 e2
                    show mx_W m_X10_years (d + 1) 129 [.ref 1, .int v1, .int v2, .int v3, .int x5] [.int x7] M6 Q
                    exact mx_iret rfl (mx_da t_X10_years 63 rfl) h
                  · have h := h.2 g9
                    refine mx_iconst (v := 0) (mx_da t_X10_years 55 rfl) rfl rfl ?_
                    refine mx_goto (n := 129) (mx_da t_X10_years 56 rfl) rfl ?_
                    exact mx_iret rfl (mx_da t_X10_years 63 rfl) h
                · have h := h.2 g9
                  refine mx_aload_n 0 (mx_da t_X10_years 47 rfl) rfl rfl rfl rfl ?_
                  refine mx_getR 33 fs_RX10_41 rfl (tp_s T 1 rfl) (tp_r T 32 rfl) (mx_da t_X10_years 48 rfl) rfl ?_
                  refine mx_getI fs_RX10_144 rfl (tp_s T 33 rfl) (mx_da t_X10_years 49 rfl) rfl ?_
                  exact mx_iret rfl (mx_da t_X10_years 50 rfl) h
              · have h := h.2 g9
                refine mx_iload 4 (mx_da t_X10_years 42 rfl) rfl rfl ?_
                exact mx_iret rfl (mx_da t_X10_years 43 rfl) h
            · have h := h.2 g9
              refine mx_iconst (v := 0) (mx_da t_X10_years 33 rfl) rfl rfl ?_
              refine mx_goto (n := 81) (mx_da t_X10_years 34 rfl) rfl ?_
              refine mx_istore 4 [.ref 1, .int v1, .int v2, .int v3, .int 0] (mx_da t_X10_years 39 rfl) rfl (by decide) rfl ?_
              refine mx_iload_n 3 (mx_da t_X10_years 40 rfl) rfl rfl rfl ?_
              refine mx_if_ne 90 (mx_da t_X10_years 41 rfl) rfl rfl (fun g9 => ?_) (fun g9 => ?_)
              · have h := h.1 g9
                refine mx_iload_n 3 (mx_da t_X10_years 44 rfl) rfl rfl rfl ?_
                refine mx_iconst (v := 1) (mx_da t_X10_years 45 rfl) rfl rfl ?_
                refine mx_icmp_ne 103 (mx_da t_X10_years 46 rfl) rfl rfl (fun g9 => ?_) (fun g9 => ?_)
                · have h := h.1 g9
                  refine mx_aload_n 0 (mx_da t_X10_years 51 rfl) rfl rfl rfl rfl ?_
                  refine mx_getR t fs_RX10_71 rfl (tp_s T 1 rfl) ht0 (mx_da t_X10_years 52 rfl) rfl ?_
                  refine mx_getI fs_RX10_130 rfl (cat_s T ht) (mx_da t_X10_years 53 rfl) rfl ?_
                  refine mx_if_ne 117 (mx_da t_X10_years 54 rfl) rfl rfl (fun g9 => ?_) (fun g9 => ?_)
                  · have h := h.1 g9
                    refine mx_aload_n 0 (mx_da t_X10_years 57 rfl) rfl rfl rfl rfl ?_
                    refine mx_getR 33 fs_RX10_41 rfl (tp_s T 1 rfl) (tp_r T 32 rfl) (mx_da t_X10_years 58 rfl) rfl ?_
                    refine mx_aload_n 0 (mx_da t_X10_years 59 rfl) rfl rfl rfl rfl ?_
                    refine mx_getR 24 fs_RX10_30 rfl (tp_s T 1 rfl) (tp_r T 28 rfl) (mx_da t_X10_years 60 rfl) rfl ?_
                    refine mx_iconst (v := 0) (mx_da t_X10_years 61 rfl) rfl rfl ?_
                    refine mx_callV yX5_wrongBy m_X5_wrongBy [.ref 24, .int 0] mm_X5_wrongBy ml_RX10_200 im_X5_wrongBy se_X5_wrongBy (tp_s T 33 rfl) rfl rfl (Nat.le_of_ble_eq_true rfl) (mx_da t_X10_years 62 rfl) rfl (Nat.le_of_ble_eq_true rfl) rfl ?_
                    refine mx_mono h ?_
                    intro o M8 ho
                    obtain ⟨e1, e2, ho⟩ := ho
                    obtain ⟨x9, rfl, h⟩ := ho
                    refine ⟨e1, ?_⟩
                    have T := tp_of e1 e2 T
                    have ht0 := (congrFun (congrFun e2 1) 10).trans ht0
                    clear e1 e2
                    show mx_W m_X10_years (d + 1) 129 [.ref 1, .int v1, .int v2, .int v3, .int 0] [.int x9] M8 Q
                    exact mx_iret rfl (mx_da t_X10_years 63 rfl) h
                  · have h := h.2 g9
                    refine mx_iconst (v := 0) (mx_da t_X10_years 55 rfl) rfl rfl ?_
                    refine mx_goto (n := 129) (mx_da t_X10_years 56 rfl) rfl ?_
                    exact mx_iret rfl (mx_da t_X10_years 63 rfl) h
                · have h := h.2 g9
                  refine mx_aload_n 0 (mx_da t_X10_years 47 rfl) rfl rfl rfl rfl ?_
                  refine mx_getR 33 fs_RX10_41 rfl (tp_s T 1 rfl) (tp_r T 32 rfl) (mx_da t_X10_years 48 rfl) rfl ?_
                  refine mx_getI fs_RX10_144 rfl (tp_s T 33 rfl) (mx_da t_X10_years 49 rfl) rfl ?_
                  exact mx_iret rfl (mx_da t_X10_years 50 rfl) h
              · have h := h.2 g9
                refine mx_iload 4 (mx_da t_X10_years 42 rfl) rfl rfl ?_
                exact mx_iret rfl (mx_da t_X10_years 43 rfl) h
        · have h := h.2 g9
          exact mx_throwW "java/lang/IllegalArgumentException" 29 109 401 113 (by decide) rfl (by decide +kernel) cl_109 in_IAE th_113.1 th_113.2 (mx_da t_X10_years 15 rfl) (mx_da t_X10_years 16 rfl) (mx_da t_X10_years 17 rfl) (mx_da t_X10_years 18 rfl) (mx_da t_X10_years 19 rfl) rfl (by decide) h.1 h.2.1 h.2.2
    · have h := h.2 g9
      exact mx_thrN 24 155 225 2 rfl (by decide) rfl cl_155 in_NSE (mx_da t_X10_years 5 rfl) (mx_da t_X10_years 6 rfl) (Or.inl ⟨rfl, (mx_da t_X10_years 7 rfl)⟩) (mx_da t_X10_years 8 rfl) (mx_da t_X10_years 9 rfl) rfl (by decide) h.1 h.2.1 h.2.2
set_option maxHeartbeats 1000000 in
theorem x_X10_missedInYears_0 {d : Nat} {M : mx_M} {Q : mx_O → mx_M → Prop} (T : mx_Tp M) (t : Nat) (ht : mx_Cat t) (ht0 : mx_R M 1 10 = t) (v1 : Int32) (v2 : Int32)
    (h : mx_W m_X10_missedInYears (d + 1) 8 [.ref 1, .retAddr 0, .int v2, .int 0, .int v1, .int 0, .retAddr 0, .retAddr 0, .retAddr 0] [] M Q) :
    mx_W m_X10_missedInYears (d + 1) 0 [.ref 1, .int v1, .int v2, .retAddr 0, .retAddr 0, .retAddr 0, .retAddr 0, .retAddr 0, .retAddr 0] [] M Q := by
  refine mx_iconst (v := 0) (mx_da t_X10_missedInYears 0 rfl) rfl rfl ?_
  refine mx_istore_n 3 [.ref 1, .int v1, .int v2, .int 0, .retAddr 0, .retAddr 0, .retAddr 0, .retAddr 0, .retAddr 0] (mx_da t_X10_missedInYears 1 rfl) rfl rfl (by decide) rfl ?_
  refine mx_iload_n 1 (mx_da t_X10_missedInYears 2 rfl) rfl rfl rfl ?_
  refine mx_istore 4 [.ref 1, .int v1, .int v2, .int 0, .int v1, .retAddr 0, .retAddr 0, .retAddr 0, .retAddr 0] (mx_da t_X10_missedInYears 3 rfl) rfl (by decide) rfl ?_
  refine mx_iconst (v := 0) (mx_da t_X10_missedInYears 4 rfl) rfl rfl ?_
  refine mx_istore 5 [.ref 1, .int v1, .int v2, .int 0, .int v1, .int 0, .retAddr 0, .retAddr 0, .retAddr 0] (mx_da t_X10_missedInYears 5 rfl) rfl (by decide) rfl ?_
  exact mx_wkn [.ref 1, .retAddr 0, .int v2, .int 0, .int v1, .int 0, .retAddr 0, .retAddr 0, .retAddr 0] ⟨Or.inr rfl, Or.inl rfl, Or.inr rfl, Or.inr rfl, Or.inr rfl, Or.inr rfl, Or.inr rfl, Or.inr rfl, Or.inr rfl, trivial⟩ h
set_option maxHeartbeats 1000000 in
theorem x_X10_missedInYears_8 {d : Nat} {M : mx_M} {Q : mx_O → mx_M → Prop} (T : mx_Tp M) (t : Nat) (ht : mx_Cat t) (ht0 : mx_R M 1 10 = t) (v2 : Int32) (v3 : Int32) (v4 : Int32) (v5 : Int32)
    (h : ((v2 ≤ v5 → Q (.inl (some (.int v3))) M) ∧ (¬ v2 ≤ v5 → (mx_W m_X10_nextSeed d 0 [.int v4] [] M (fun o M1 => mx_sh M1 = mx_sh M ∧ mx_R M1 = mx_R M ∧ (∃ x2 : Int32, o = .inl (some (.int x2)) ∧ (mx_W m_X10_draw d 0 [.int x2, .int (mx_I M1 t 12)] [] M1 (fun o M3 => mx_sh M3 = mx_sh M1 ∧ mx_R M3 = mx_R M1 ∧ (∃ x4 : Int32, o = .inl (some (.int x4)) ∧ (mx_W m_X10_nextSeed d 0 [.int x2] [] M3 (fun o M5 => mx_sh M5 = mx_sh M3 ∧ mx_R M5 = mx_R M3 ∧ (∃ x6 : Int32, o = .inl (some (.int x6)) ∧ (mx_W m_X10_draw d 0 [.int x6, .int (mx_I M5 t 13)] [] M5 (fun o M7 => mx_sh M7 = mx_sh M5 ∧ mx_R M7 = mx_R M5 ∧ (∃ x8 : Int32, o = .inl (some (.int x8)) ∧ (mx_W m_X5_placeOf d 0 [.ref 33, .int x4, .retAddr 0] [] M7 (fun o M9 => mx_sh M9 = mx_sh M7 ∧ mx_R M9 = mx_R M7 ∧ (∃ x10 : Int32, o = .inl (some (.int x10)) ∧ ((¬ x10 = (-1 : Int32) → (mx_W m_X5_finds d 0 [.ref 33, .ref 24, .int x8, .int x4] [] M9 (fun o M11 => mx_sh M11 = mx_sh M9 ∧ mx_R M11 = mx_R M9 ∧ (∃ x12 : Bool, o = .inl (some (.int (mx_b x12))) ∧ ((x12 = false → mx_W m_X10_missedInYears (d + 1) 8 [.ref 1, .retAddr 0, .int v2, .int (v3 + 1), .int x6, .int (v5 + 1), .retAddr 0, .retAddr 0, .retAddr 0] [] M11 Q) ∧ (x12 = true → (mx_W m_X5_remove d 0 [.ref 33, .int x10, .retAddr 0] [] M11 (fun o M13 => mx_sh M13 = mx_sh M11 ∧ mx_R M13 = mx_R M11 ∧ (o = .inl none ∧ mx_W m_X10_missedInYears (d + 1) 8 [.ref 1, .retAddr 0, .int v2, .int v3, .int x6, .int (v5 + 1), .retAddr 0, .retAddr 0, .retAddr 0] [] M13 Q))))))))) ∧ (x10 = (-1 : Int32) → (mx_W m_X5_placeFor d 0 [.ref 33, .ref 24, .int x8, .int x4, .retAddr 0] [] M9 (fun o M14 => mx_sh M14 = mx_sh M9 ∧ mx_R M14 = mx_R M9 ∧ (∃ x15 : Int32, o = .inl (some (.int x15)) ∧ (mx_W m_X5_insert d 0 [.ref 33, .int x15, .int x4, .retAddr 0] [] M14 (fun o M16 => mx_sh M16 = mx_sh M14 ∧ mx_R M16 = mx_R M14 ∧ (o = .inl none ∧ mx_W m_X10_missedInYears (d + 1) 8 [.ref 1, .retAddr 0, .int v2, .int v3, .int x6, .int (v5 + 1), .retAddr 0, .retAddr 0, .retAddr 0] [] M16 Q)))))))))))))))))))))))))) :
    mx_W m_X10_missedInYears (d + 1) 8 [.ref 1, .retAddr 0, .int v2, .int v3, .int v4, .int v5, .retAddr 0, .retAddr 0, .retAddr 0] [] M Q := by
  refine mx_iload 5 (mx_da t_X10_missedInYears 6 rfl) rfl rfl ?_
  refine mx_iload_n 2 (mx_da t_X10_missedInYears 7 rfl) rfl rfl rfl ?_
  refine mx_icmp_ge 139 (mx_da t_X10_missedInYears 8 rfl) rfl rfl (fun g9 => ?_) (fun g9 => ?_)
  · have h := h.1 g9
    refine mx_iload_n 3 (mx_da t_X10_missedInYears 63 rfl) rfl rfl rfl ?_
    exact mx_iret rfl (mx_da t_X10_missedInYears 64 rfl) h
  · have h := h.2 g9
    refine mx_iload 4 (mx_da t_X10_missedInYears 9 rfl) rfl rfl ?_
    refine mx_callS yX10_nextSeed m_X10_nextSeed [.int v4] mm_X10_nextSeed ml_RX10_406 st_X10_nextSeed rfl (Nat.le_of_ble_eq_true rfl) (mx_da t_X10_missedInYears 10 rfl) rfl (Nat.le_of_ble_eq_true rfl) rfl ?_
    refine mx_mono h ?_
    intro o M1 ho
    obtain ⟨e1, e2, ho⟩ := ho
    obtain ⟨x2, rfl, h⟩ := ho
    refine ⟨e1, ?_⟩
    have T := tp_of e1 e2 T
    have ht0 := (congrFun (congrFun e2 1) 10).trans ht0
    clear e1 e2
    show mx_W m_X10_missedInYears (d + 1) 19 [.ref 1, .retAddr 0, .int v2, .int v3, .int v4, .int v5, .retAddr 0, .retAddr 0, .retAddr 0] [.int x2] M1 Q
    refine mx_istore 4 [.ref 1, .retAddr 0, .int v2, .int v3, .int x2, .int v5, .retAddr 0, .retAddr 0, .retAddr 0] (mx_da t_X10_missedInYears 11 rfl) rfl (by decide) rfl ?_
    refine mx_iload 4 (mx_da t_X10_missedInYears 12 rfl) rfl rfl ?_
    refine mx_aload_n 0 (mx_da t_X10_missedInYears 13 rfl) rfl rfl rfl rfl ?_
    refine mx_getR t fs_RX10_71 rfl (tp_s T 1 rfl) ht0 (mx_da t_X10_missedInYears 14 rfl) rfl ?_
    refine mx_getI fs_RX10_148 rfl (cat_s T ht) (mx_da t_X10_missedInYears 15 rfl) rfl ?_
    refine mx_callS yX10_draw m_X10_draw [.int x2, .int (mx_I M1 t 12)] mm_X10_draw ml_RX10_409 st_X10_draw rfl (Nat.le_of_ble_eq_true rfl) (mx_da t_X10_missedInYears 16 rfl) rfl (Nat.le_of_ble_eq_true rfl) rfl ?_
    refine mx_mono h ?_
    intro o M3 ho
    obtain ⟨e1, e2, ho⟩ := ho
    obtain ⟨x4, rfl, h⟩ := ho
    refine ⟨e1, ?_⟩
    have T := tp_of e1 e2 T
    have ht0 := (congrFun (congrFun e2 1) 10).trans ht0
    clear e1 e2
    show mx_W m_X10_missedInYears (d + 1) 33 [.ref 1, .retAddr 0, .int v2, .int v3, .int x2, .int v5, .retAddr 0, .retAddr 0, .retAddr 0] [.int x4] M3 Q
    refine mx_istore 6 [.ref 1, .retAddr 0, .int v2, .int v3, .int x2, .int v5, .int x4, .retAddr 0, .retAddr 0] (mx_da t_X10_missedInYears 17 rfl) rfl (by decide) rfl ?_
    refine mx_iload 4 (mx_da t_X10_missedInYears 18 rfl) rfl rfl ?_
    refine mx_callS yX10_nextSeed m_X10_nextSeed [.int x2] mm_X10_nextSeed ml_RX10_406 st_X10_nextSeed rfl (Nat.le_of_ble_eq_true rfl) (mx_da t_X10_missedInYears 19 rfl) rfl (Nat.le_of_ble_eq_true rfl) rfl ?_
    refine mx_mono h ?_
    intro o M5 ho
    obtain ⟨e1, e2, ho⟩ := ho
    obtain ⟨x6, rfl, h⟩ := ho
    refine ⟨e1, ?_⟩
    have T := tp_of e1 e2 T
    have ht0 := (congrFun (congrFun e2 1) 10).trans ht0
    clear e1 e2
    show mx_W m_X10_missedInYears (d + 1) 40 [.ref 1, .retAddr 0, .int v2, .int v3, .int x2, .int v5, .int x4, .retAddr 0, .retAddr 0] [.int x6] M5 Q
    refine mx_istore 4 [.ref 1, .retAddr 0, .int v2, .int v3, .int x6, .int v5, .int x4, .retAddr 0, .retAddr 0] (mx_da t_X10_missedInYears 20 rfl) rfl (by decide) rfl ?_
    refine mx_iload 4 (mx_da t_X10_missedInYears 21 rfl) rfl rfl ?_
    refine mx_aload_n 0 (mx_da t_X10_missedInYears 22 rfl) rfl rfl rfl rfl ?_
    refine mx_getR t fs_RX10_71 rfl (tp_s T 1 rfl) ht0 (mx_da t_X10_missedInYears 23 rfl) rfl ?_
    refine mx_getI fs_RX10_130 rfl (cat_s T ht) (mx_da t_X10_missedInYears 24 rfl) rfl ?_
    refine mx_callS yX10_draw m_X10_draw [.int x6, .int (mx_I M5 t 13)] mm_X10_draw ml_RX10_409 st_X10_draw rfl (Nat.le_of_ble_eq_true rfl) (mx_da t_X10_missedInYears 25 rfl) rfl (Nat.le_of_ble_eq_true rfl) rfl ?_
    refine mx_mono h ?_
    intro o M7 ho
    obtain ⟨e1, e2, ho⟩ := ho
    obtain ⟨x8, rfl, h⟩ := ho
    refine ⟨e1, ?_⟩
    have T := tp_of e1 e2 T
    have ht0 := (congrFun (congrFun e2 1) 10).trans ht0
    clear e1 e2
    show mx_W m_X10_missedInYears (d + 1) 54 [.ref 1, .retAddr 0, .int v2, .int v3, .int x6, .int v5, .int x4, .retAddr 0, .retAddr 0] [.int x8] M7 Q
    refine mx_istore 7 [.ref 1, .retAddr 0, .int v2, .int v3, .int x6, .int v5, .int x4, .int x8, .retAddr 0] (mx_da t_X10_missedInYears 26 rfl) rfl (by decide) rfl ?_
    refine mx_aload_n 0 (mx_da t_X10_missedInYears 27 rfl) rfl rfl rfl rfl ?_
    refine mx_getR 33 fs_RX10_41 rfl (tp_s T 1 rfl) (tp_r T 32 rfl) (mx_da t_X10_missedInYears 28 rfl) rfl ?_
    refine mx_iload 6 (mx_da t_X10_missedInYears 29 rfl) rfl rfl ?_
    refine mx_callV yX5_placeOf m_X5_placeOf [.int x4] mm_X5_placeOf ml_RX10_172 im_X5_placeOf se_X5_placeOf (tp_s T 33 rfl) rfl rfl (Nat.le_of_ble_eq_true rfl) (mx_da t_X10_missedInYears 30 rfl) rfl (Nat.le_of_ble_eq_true rfl) rfl ?_
    refine mx_mono h ?_
    intro o M9 ho
    obtain ⟨e1, e2, ho⟩ := ho
    obtain ⟨x10, rfl, h⟩ := ho
    refine ⟨e1, ?_⟩
    have T := tp_of e1 e2 T
    have ht0 := (congrFun (congrFun e2 1) 10).trans ht0
    clear e1 e2
    show mx_W m_X10_missedInYears (d + 1) 65 [.ref 1, .retAddr 0, .int v2, .int v3, .int x6, .int v5, .int x4, .int x8, .retAddr 0] [.int x10] M9 Q
    refine mx_istore 8 [.ref 1, .retAddr 0, .int v2, .int v3, .int x6, .int v5, .int x4, .int x8, .int x10] (mx_da t_X10_missedInYears 31 rfl) rfl (by decide) rfl ?_
    refine mx_iload 8 (mx_da t_X10_missedInYears 32 rfl) rfl rfl ?_
    refine mx_iconst (v := (-1)) (mx_da t_X10_missedInYears 33 rfl) rfl rfl ?_
    refine mx_icmp_ne 100 (mx_da t_X10_missedInYears 34 rfl) rfl rfl (fun g9 => ?_) (fun g9 => ?_)
    · have h := h.1 g9
      refine mx_aload_n 0 (mx_da t_X10_missedInYears 47 rfl) rfl rfl rfl rfl ?_
      refine mx_getR 33 fs_RX10_41 rfl (tp_s T 1 rfl) (tp_r T 32 rfl) (mx_da t_X10_missedInYears 48 rfl) rfl ?_
      refine mx_aload_n 0 (mx_da t_X10_missedInYears 49 rfl) rfl rfl rfl rfl ?_
      refine mx_getR 24 fs_RX10_30 rfl (tp_s T 1 rfl) (tp_r T 28 rfl) (mx_da t_X10_missedInYears 50 rfl) rfl ?_
      refine mx_iload 7 (mx_da t_X10_missedInYears 51 rfl) rfl rfl ?_
      refine mx_iload 6 (mx_da t_X10_missedInYears 52 rfl) rfl rfl ?_
      refine mx_callV yX5_finds m_X5_finds [.ref 24, .int x8, .int x4] mm_X5_finds ml_RX10_348 im_X5_finds se_X5_finds (tp_s T 33 rfl) rfl rfl (Nat.le_of_ble_eq_true rfl) (mx_da t_X10_missedInYears 53 rfl) rfl (Nat.le_of_ble_eq_true rfl) rfl ?_
      refine mx_mono h ?_
      intro o M11 ho
      obtain ⟨e1, e2, ho⟩ := ho
      obtain ⟨x12, rfl, h⟩ := ho
      refine ⟨e1, ?_⟩
      have T := tp_of e1 e2 T
      have ht0 := (congrFun (congrFun e2 1) 10).trans ht0
      clear e1 e2
      show mx_W m_X10_missedInYears (d + 1) 115 [.ref 1, .retAddr 0, .int v2, .int v3, .int x6, .int v5, .int x4, .int x8, .int x10] [.int (mx_b x12)] M11 Q
      refine mx_if_eq 130 (mx_da t_X10_missedInYears 54 rfl) rfl rfl (fun g9 => ?_) (fun g9 => ?_)
      · have h := h.1 (mx_b0.mp g9)
        refine mx_iinc 3 (v := v3 + 1) [.ref 1, .retAddr 0, .int v2, .int (v3 + 1), .int x6, .int v5, .int x4, .int x8, .int x10] (mx_da t_X10_missedInYears 60 rfl) rfl (by decide) rfl rfl rfl ?_
        refine mx_iinc 5 (v := v5 + 1) [.ref 1, .retAddr 0, .int v2, .int (v3 + 1), .int x6, .int (v5 + 1), .int x4, .int x8, .int x10] (mx_da t_X10_missedInYears 61 rfl) rfl (by decide) rfl rfl rfl ?_
        refine mx_goto (n := 8) (mx_da t_X10_missedInYears 62 rfl) rfl ?_
        exact mx_wkn [.ref 1, .retAddr 0, .int v2, .int (v3 + 1), .int x6, .int (v5 + 1), .retAddr 0, .retAddr 0, .retAddr 0] ⟨Or.inr rfl, Or.inr rfl, Or.inr rfl, Or.inr rfl, Or.inr rfl, Or.inr rfl, Or.inl rfl, Or.inl rfl, Or.inl rfl, trivial⟩ h
      · have h := h.2 (mx_bn.mp g9)
        refine mx_aload_n 0 (mx_da t_X10_missedInYears 55 rfl) rfl rfl rfl rfl ?_
        refine mx_getR 33 fs_RX10_41 rfl (tp_s T 1 rfl) (tp_r T 32 rfl) (mx_da t_X10_missedInYears 56 rfl) rfl ?_
        refine mx_iload 8 (mx_da t_X10_missedInYears 57 rfl) rfl rfl ?_
        refine mx_callV yX5_remove m_X5_remove [.int x10] mm_X5_remove ml_RX10_267 im_X5_remove se_X5_remove (tp_s T 33 rfl) rfl rfl (Nat.le_of_ble_eq_true rfl) (mx_da t_X10_missedInYears 58 rfl) rfl (Nat.le_of_ble_eq_true rfl) rfl ?_
        refine mx_mono h ?_
        intro o M13 ho
        obtain ⟨e1, e2, ho⟩ := ho
        obtain ⟨rfl, h⟩ := ho
        refine ⟨e1, ?_⟩
        have T := tp_of e1 e2 T
        have ht0 := (congrFun (congrFun e2 1) 10).trans ht0
        clear e1 e2
        show mx_W m_X10_missedInYears (d + 1) 127 [.ref 1, .retAddr 0, .int v2, .int v3, .int x6, .int v5, .int x4, .int x8, .int x10] [] M13 Q
        refine mx_goto (n := 133) (mx_da t_X10_missedInYears 59 rfl) rfl ?_
        refine mx_iinc 5 (v := v5 + 1) [.ref 1, .retAddr 0, .int v2, .int v3, .int x6, .int (v5 + 1), .int x4, .int x8, .int x10] (mx_da t_X10_missedInYears 61 rfl) rfl (by decide) rfl rfl rfl ?_
        refine mx_goto (n := 8) (mx_da t_X10_missedInYears 62 rfl) rfl ?_
        exact mx_wkn [.ref 1, .retAddr 0, .int v2, .int v3, .int x6, .int (v5 + 1), .retAddr 0, .retAddr 0, .retAddr 0] ⟨Or.inr rfl, Or.inr rfl, Or.inr rfl, Or.inr rfl, Or.inr rfl, Or.inr rfl, Or.inl rfl, Or.inl rfl, Or.inl rfl, trivial⟩ h
    · have h := h.2 g9
      refine mx_aload_n 0 (mx_da t_X10_missedInYears 35 rfl) rfl rfl rfl rfl ?_
      refine mx_getR 33 fs_RX10_41 rfl (tp_s T 1 rfl) (tp_r T 32 rfl) (mx_da t_X10_missedInYears 36 rfl) rfl ?_
      refine mx_aload_n 0 (mx_da t_X10_missedInYears 37 rfl) rfl rfl rfl rfl ?_
      refine mx_getR 33 fs_RX10_41 rfl (tp_s T 1 rfl) (tp_r T 32 rfl) (mx_da t_X10_missedInYears 38 rfl) rfl ?_
      refine mx_aload_n 0 (mx_da t_X10_missedInYears 39 rfl) rfl rfl rfl rfl ?_
      refine mx_getR 24 fs_RX10_30 rfl (tp_s T 1 rfl) (tp_r T 28 rfl) (mx_da t_X10_missedInYears 40 rfl) rfl ?_
      refine mx_iload 7 (mx_da t_X10_missedInYears 41 rfl) rfl rfl ?_
      refine mx_iload 6 (mx_da t_X10_missedInYears 42 rfl) rfl rfl ?_
      refine mx_callV yX5_placeFor m_X5_placeFor [.ref 24, .int x8, .int x4] mm_X5_placeFor ml_RX10_252 im_X5_placeFor se_X5_placeFor (tp_s T 33 rfl) rfl rfl (Nat.le_of_ble_eq_true rfl) (mx_da t_X10_missedInYears 43 rfl) rfl (Nat.le_of_ble_eq_true rfl) rfl ?_
      refine mx_mono h ?_
      intro o M14 ho
      obtain ⟨e1, e2, ho⟩ := ho
      obtain ⟨x15, rfl, h⟩ := ho
      refine ⟨e1, ?_⟩
      have T := tp_of e1 e2 T
      have ht0 := (congrFun (congrFun e2 1) 10).trans ht0
      clear e1 e2
      show mx_W m_X10_missedInYears (d + 1) 92 [.ref 1, .retAddr 0, .int v2, .int v3, .int x6, .int v5, .int x4, .int x8, .int x10] [.int x15, .ref 33] M14 Q
      refine mx_iload 6 (mx_da t_X10_missedInYears 44 rfl) rfl rfl ?_
      refine mx_callV yX5_insert m_X5_insert [.int x15, .int x4] mm_X5_insert ml_RX10_263 im_X5_insert se_X5_insert (tp_s T 33 rfl) rfl rfl (Nat.le_of_ble_eq_true rfl) (mx_da t_X10_missedInYears 45 rfl) rfl (Nat.le_of_ble_eq_true rfl) rfl ?_
      refine mx_mono h ?_
      intro o M16 ho
      obtain ⟨e1, e2, ho⟩ := ho
      obtain ⟨rfl, h⟩ := ho
      refine ⟨e1, ?_⟩
      have T := tp_of e1 e2 T
      have ht0 := (congrFun (congrFun e2 1) 10).trans ht0
      clear e1 e2
      show mx_W m_X10_missedInYears (d + 1) 97 [.ref 1, .retAddr 0, .int v2, .int v3, .int x6, .int v5, .int x4, .int x8, .int x10] [] M16 Q
      refine mx_goto (n := 133) (mx_da t_X10_missedInYears 46 rfl) rfl ?_
      refine mx_iinc 5 (v := v5 + 1) [.ref 1, .retAddr 0, .int v2, .int v3, .int x6, .int (v5 + 1), .int x4, .int x8, .int x10] (mx_da t_X10_missedInYears 61 rfl) rfl (by decide) rfl rfl rfl ?_
      refine mx_goto (n := 8) (mx_da t_X10_missedInYears 62 rfl) rfl ?_
      exact mx_wkn [.ref 1, .retAddr 0, .int v2, .int v3, .int x6, .int (v5 + 1), .retAddr 0, .retAddr 0, .retAddr 0] ⟨Or.inr rfl, Or.inr rfl, Or.inr rfl, Or.inr rfl, Or.inr rfl, Or.inr rfl, Or.inl rfl, Or.inl rfl, Or.inl rfl, trivial⟩ h
set_option maxHeartbeats 1000000 in
theorem x_X10_nextSeed_0 {d : Nat} {M : mx_M} {Q : mx_O → mx_M → Prop} (T : mx_Tp M) (t : Nat) (ht : mx_Cat t) (ht0 : mx_R M 1 10 = t) (v0 : Int32)
    (h : Q (.inl (some (.int ((v0 * 1103515245) + 12345)))) M) :
    mx_W m_X10_nextSeed d 0 [.int v0] [] M Q := by
  refine mx_iload_n 0 (mx_da t_X10_nextSeed 0 rfl) rfl rfl rfl ?_
  refine mx_ldcw cn_RX10_412 (mx_da t_X10_nextSeed 1 rfl) rfl ?_
  refine mx_imul (mx_da t_X10_nextSeed 2 rfl) rfl ?_
  refine mx_sipush (v := 12345) (mx_da t_X10_nextSeed 3 rfl) rfl rfl ?_
  refine mx_iadd (mx_da t_X10_nextSeed 4 rfl) rfl ?_
  exact mx_iret rfl (mx_da t_X10_nextSeed 5 rfl) h
set_option maxHeartbeats 1000000 in
theorem x_X10_draw_0 {d : Nat} {M : mx_M} {Q : mx_O → mx_M → Prop} (T : mx_Tp M) (t : Nat) (ht : mx_Cat t) (ht0 : mx_R M 1 10 = t) (v0 : Int32) (v1 : Int32)
    (h : (((1 : Int32) ≤ v1 → (¬ v1 = 0 ∧ Q (.inl (some (.int ((((v0.toUInt32 >>> ((16 : Int32).toUInt32 &&& Int32.toUInt32 31)).toInt32) &&& 32767 : Int32) - (((v0.toUInt32 >>> ((16 : Int32).toUInt32 &&& Int32.toUInt32 31)).toInt32) &&& 32767 : Int32) / v1 * v1)))) M)) ∧ (¬ (1 : Int32) ≤ v1 → Q (.inl (some (.int 0))) M))) :
    mx_W m_X10_draw d 0 [.int v0, .int v1] [] M Q := by
  refine mx_iload_n 1 (mx_da t_X10_draw 0 rfl) rfl rfl rfl ?_
  refine mx_iconst (v := 1) (mx_da t_X10_draw 1 rfl) rfl rfl ?_
  refine mx_icmp_ge 9 (mx_da t_X10_draw 2 rfl) rfl rfl (fun g9 => ?_) (fun g9 => ?_)
  · have h := h.1 g9
    refine mx_iload_n 0 (mx_da t_X10_draw 5 rfl) rfl rfl rfl ?_
    refine mx_bipush (v := 16) (mx_da t_X10_draw 6 rfl) rfl rfl ?_
    refine mx_iushr (mx_da t_X10_draw 7 rfl) rfl ?_
    refine mx_sipush (v := 32767) (mx_da t_X10_draw 8 rfl) rfl rfl ?_
    refine mx_iand (mx_da t_X10_draw 9 rfl) rfl ?_
    refine mx_iload_n 1 (mx_da t_X10_draw 10 rfl) rfl rfl rfl ?_
    refine mx_irem (mx_da t_X10_draw 11 rfl) rfl h.1 ?_
    have h := h.2
    exact mx_iret rfl (mx_da t_X10_draw 12 rfl) h
  · have h := h.2 g9
    refine mx_iconst (v := 0) (mx_da t_X10_draw 3 rfl) rfl rfl ?_
    refine mx_goto (n := 19) (mx_da t_X10_draw 4 rfl) rfl ?_
    exact mx_iret rfl (mx_da t_X10_draw 12 rfl) h
