/-! the walks of the parser (by tools/conf.py) -/
set_option maxHeartbeats 1000000 in
theorem x_X4_handOver_0 {d : Nat} {M : mx_M} {Q : mx_O → mx_M → Prop} (T : mx_Tp M) (u : Nat) (hu : mx_Cat u) (hu0 : mx_R M 2 2 = u) (c : Nat) (hc : mx_Cat c)
    (h : (∀ M1, M1 = mx_setR M 2 2 c → Q (.inl (some (.ref u))) M1)) :
    mx_W m_X4_handOver d 0 [.ref 2, .ref c, .retAddr 0] [] M Q := by
  refine mx_aload_n 0 (mx_da t_X4_handOver 0 rfl) rfl rfl rfl rfl ?_
  refine mx_getR u fs_RX4_28 rfl (tp_s T 2 rfl) hu0 (mx_da t_X4_handOver 1 rfl) rfl ?_
  refine mx_astore_n 2 [.ref 2, .ref c, .ref u] (mx_da t_X4_handOver 2 rfl) rfl rfl (by decide) rfl rfl rfl ?_
  refine mx_aload_n 0 (mx_da t_X4_handOver 3 rfl) rfl rfl rfl rfl ?_
  refine mx_aload_n 1 (mx_da t_X4_handOver 4 rfl) rfl rfl rfl rfl ?_
  refine mx_putR (cat_le T hc) fs_RX4_28 rfl (tp_s T 2 rfl) rfl (mx_da t_X4_handOver 5 rfl) rfl ?_
  have hu0 : mx_R (mx_setR M 2 2 c) 2 2 = c := mx_up_eq (mx_R M) 2 2 c
  refine mx_gen (mx_setR M 2 2 c) (fun M1 e9 => ?_)
  have h := h _ e9
  have T : mx_Tp M1 := tp_e e9 (tp_setR T rl_p2)
  have hu0 : mx_R M1 2 2 = c := rr_e e9 hu0
  refine mx_aload_n 2 (mx_da t_X4_handOver 6 rfl) rfl rfl rfl rfl ?_
  exact mx_aret rfl (Or.inl ⟨_, rfl⟩) (mx_da t_X4_handOver 7 rfl) h
set_option maxHeartbeats 1000000 in
theorem x_X4_parse_0 {d : Nat} {M : mx_M} {Q : mx_O → mx_M → Prop} (T : mx_Tp M) (u : Nat) (hu : mx_Cat u) (hu0 : mx_R M 2 2 = u) (v1 : Int32)
    (h : (mx_W m_X1_clear d 0 [.ref u] [] M (fun o M1 => mx_sh M1 = mx_sh M ∧ mx_R M1 = mx_R M ∧ (o = .inl none ∧ (∀ M2, M2 = mx_setI M1 6 4 0 → (∀ M3, M3 = mx_setI M2 2 3 0 → (∀ M4, M4 = mx_setI M3 2 4 (-1) → (mx_W m_X8_open d 0 [.ref 3, .int v1] [] M4 (fun o M5 => mx_sh M5 = mx_sh M4 ∧ mx_R M5 = mx_R M4 ∧ (o = .inl none ∧ mx_W m_X4_parse (d + 1) 35 [.ref 2, .retAddr 0, .int 0] [] M5 Q)))))))))) :
    mx_W m_X4_parse (d + 1) 0 [.ref 2, .int v1, .retAddr 0] [] M Q := by
  refine mx_aload_n 0 (mx_da t_X4_parse 0 rfl) rfl rfl rfl rfl ?_
  refine mx_getR u fs_RX4_28 rfl (tp_s T 2 rfl) hu0 (mx_da t_X4_parse 1 rfl) rfl ?_
  refine mx_callV yX1_clear m_X1_clear [] mm_X1_clear ml_RX4_39 im_X1_clear se_X1_clear (cat_s T hu) rfl rfl (Nat.le_of_ble_eq_true rfl) (mx_da t_X4_parse 2 rfl) rfl (Nat.le_of_ble_eq_true rfl) rfl ?_
  refine mx_mono h ?_
  intro o M1 ho
  obtain ⟨e1, e2, ho⟩ := ho
  obtain ⟨rfl, h⟩ := ho
  refine ⟨e1, ?_⟩
  have T := tp_of e1 e2 T
  have hu0 := (congrFun (congrFun e2 2) 2).trans hu0
  clear e1 e2
  show mx_W m_X4_parse (d + 1) 7 [.ref 2, .int v1, .retAddr 0] [] M1 Q
  refine mx_aload_n 0 (mx_da t_X4_parse 3 rfl) rfl rfl rfl rfl ?_
  refine mx_getR 6 fs_RX4_21 rfl (tp_s T 2 rfl) (tp_r T 7 rfl) (mx_da t_X4_parse 4 rfl) rfl ?_
  refine mx_iconst (v := 0) (mx_da t_X4_parse 5 rfl) rfl rfl ?_
  refine mx_putI fs_RX4_42 rfl (tp_s T 6 rfl) rfl rfl rfl (mx_da t_X4_parse 6 rfl) rfl ?_
  refine mx_gen (mx_setI M1 6 4 0) (fun M2 e9 => ?_)
  have h := h _ e9
  have T : mx_Tp M2 := tp_e e9 T
  have hu0 : mx_R M2 2 2 = u := rr_e e9 hu0
  refine mx_aload_n 0 (mx_da t_X4_parse 7 rfl) rfl rfl rfl rfl ?_
  refine mx_iconst (v := 0) (mx_da t_X4_parse 8 rfl) rfl rfl ?_
  refine mx_putI fs_RX4_32 rfl (tp_s T 2 rfl) rfl rfl rfl (mx_da t_X4_parse 9 rfl) rfl ?_
  refine mx_gen (mx_setI M2 2 3 0) (fun M3 e9 => ?_)
  have h := h _ e9
  have T : mx_Tp M3 := tp_e e9 T
  have hu0 : mx_R M3 2 2 = u := rr_e e9 hu0
  refine mx_aload_n 0 (mx_da t_X4_parse 10 rfl) rfl rfl rfl rfl ?_
  refine mx_iconst (v := (-1)) (mx_da t_X4_parse 11 rfl) rfl rfl ?_
  refine mx_putI fs_RX4_36 rfl (tp_s T 2 rfl) rfl rfl rfl (mx_da t_X4_parse 12 rfl) rfl ?_
  refine mx_gen (mx_setI M3 2 4 (-1)) (fun M4 e9 => ?_)
  have h := h _ e9
  have T : mx_Tp M4 := tp_e e9 T
  have hu0 : mx_R M4 2 2 = u := rr_e e9 hu0
  refine mx_aload_n 0 (mx_da t_X4_parse 13 rfl) rfl rfl rfl rfl ?_
  refine mx_getR 3 fs_RX4_12 rfl (tp_s T 2 rfl) (tp_r T 2 rfl) (mx_da t_X4_parse 14 rfl) rfl ?_
  refine mx_iload_n 1 (mx_da t_X4_parse 15 rfl) rfl rfl rfl ?_
  refine mx_callV yX8_open m_X8_open [.int v1] mm_X8_open ml_RX4_45 im_X8_open se_X8_open (tp_s T 3 rfl) rfl rfl (Nat.le_of_ble_eq_true rfl) (mx_da t_X4_parse 16 rfl) rfl (Nat.le_of_ble_eq_true rfl) rfl ?_
  refine mx_mono h ?_
  intro o M5 ho
  obtain ⟨e1, e2, ho⟩ := ho
  obtain ⟨rfl, h⟩ := ho
  refine ⟨e1, ?_⟩
  have T := tp_of e1 e2 T
  have hu0 := (congrFun (congrFun e2 2) 2).trans hu0
  clear e1 e2
  show mx_W m_X4_parse (d + 1) 33 [.ref 2, .int v1, .retAddr 0] [] M5 Q
  refine mx_iconst (v := 0) (mx_da t_X4_parse 17 rfl) rfl rfl ?_
  refine mx_istore_n 2 [.ref 2, .int v1, .int 0] (mx_da t_X4_parse 18 rfl) rfl rfl (by decide) rfl ?_
  exact mx_wkn [.ref 2, .retAddr 0, .int 0] ⟨Or.inr rfl, Or.inl rfl, Or.inr rfl, trivial⟩ h
set_option maxHeartbeats 1000000 in
theorem x_X4_parse_35 {d : Nat} {M : mx_M} {Q : mx_O → mx_M → Prop} (T : mx_Tp M) (u : Nat) (hu : mx_Cat u) (hu0 : mx_R M 2 2 = u) (v2 : Int32)
    (h : (((700 : Int32) ≤ v2 → ((¬ (mx_I M 2 3) = 0 → Q (.inl (some (.int (mx_I M 2 3)))) M) ∧ ((mx_I M 2 3) = 0 → (mx_W m_X7_countFor d 0 [.ref 6, .ref u, .retAddr 0, .retAddr 0] [] M (fun o M1 => mx_sh M1 = mx_sh M ∧ mx_R M1 = mx_R M ∧ (o = .inl none ∧ Q (.inl (some (.int (mx_I M1 2 3)))) M1)))))) ∧ (¬ (700 : Int32) ≤ v2 → ((¬ (mx_I M 2 3) = 0 → ((¬ (mx_I M 2 3) = 0 → Q (.inl (some (.int (mx_I M 2 3)))) M) ∧ ((mx_I M 2 3) = 0 → (mx_W m_X7_countFor d 0 [.ref 6, .ref u, .retAddr 0, .retAddr 0] [] M (fun o M2 => mx_sh M2 = mx_sh M ∧ mx_R M2 = mx_R M ∧ (o = .inl none ∧ Q (.inl (some (.int (mx_I M2 2 3)))) M2)))))) ∧ ((mx_I M 2 3) = 0 → (((mx_I M 3 4) = 0 → ((¬ (mx_I M 2 3) = 0 → Q (.inl (some (.int (mx_I M 2 3)))) M) ∧ ((mx_I M 2 3) = 0 → (mx_W m_X7_countFor d 0 [.ref 6, .ref u, .retAddr 0, .retAddr 0] [] M (fun o M3 => mx_sh M3 = mx_sh M ∧ mx_R M3 = mx_R M ∧ (o = .inl none ∧ Q (.inl (some (.int (mx_I M3 2 3)))) M3)))))) ∧ (¬ (mx_I M 3 4) = 0 → (mx_W m_X4_takeLine d 0 [.ref 2] [] M (fun o M4 => mx_sh M4 = mx_sh M ∧ mx_R M4 = mx_R M ∧ (∃ x5 : Bool, o = .inl (some (.int (mx_b x5))) ∧ ((x5 = false → mx_W m_X4_parse (d + 1) 35 [.ref 2, .retAddr 0, .int (v2 + 1)] [] M4 Q) ∧ (x5 = true → (mx_W m_X4_endLine d 0 [.ref 2] [] M4 (fun o M6 => mx_sh M6 = mx_sh M4 ∧ mx_R M6 = mx_R M4 ∧ (o = .inl none ∧ mx_W m_X4_parse (d + 1) 35 [.ref 2, .retAddr 0, .int (v2 + 1)] [] M6 Q))))))))))))))) :
    mx_W m_X4_parse (d + 1) 35 [.ref 2, .retAddr 0, .int v2] [] M Q := by
  refine mx_iload_n 2 (mx_da t_X4_parse 19 rfl) rfl rfl rfl ?_
  refine mx_sipush (v := 700) (mx_da t_X4_parse 20 rfl) rfl rfl ?_
  refine mx_icmp_ge 76 (mx_da t_X4_parse 21 rfl) rfl rfl (fun g9 => ?_) (fun g9 => ?_)
  · have h := h.1 g9
    refine mx_aload_n 0 (mx_da t_X4_parse 36 rfl) rfl rfl rfl rfl ?_
    refine mx_getI fs_RX4_32 rfl (tp_s T 2 rfl) (mx_da t_X4_parse 37 rfl) rfl ?_
    refine mx_if_ne 94 (mx_da t_X4_parse 38 rfl) rfl rfl (fun g9 => ?_) (fun g9 => ?_)
    · have h := h.1 g9
      refine mx_aload_n 0 (mx_da t_X4_parse 44 rfl) rfl rfl rfl rfl ?_
      refine mx_getI fs_RX4_32 rfl (tp_s T 2 rfl) (mx_da t_X4_parse 45 rfl) rfl ?_
      exact mx_iret rfl (mx_da t_X4_parse 46 rfl) h
    · have h := h.2 g9
      refine mx_aload_n 0 (mx_da t_X4_parse 39 rfl) rfl rfl rfl rfl ?_
      refine mx_getR 6 fs_RX4_21 rfl (tp_s T 2 rfl) (tp_r T 7 rfl) (mx_da t_X4_parse 40 rfl) rfl ?_
      refine mx_aload_n 0 (mx_da t_X4_parse 41 rfl) rfl rfl rfl rfl ?_
      refine mx_getR u fs_RX4_28 rfl (tp_s T 2 rfl) hu0 (mx_da t_X4_parse 42 rfl) rfl ?_
      refine mx_callV yX7_countFor m_X7_countFor [.ref u] mm_X7_countFor ml_RX4_59 im_X7_countFor se_X7_countFor (tp_s T 6 rfl) rfl rfl (Nat.le_of_ble_eq_true rfl) (mx_da t_X4_parse 43 rfl) rfl (Nat.le_of_ble_eq_true rfl) rfl ?_
      refine mx_mono h ?_
      intro o M1 ho
      obtain ⟨e1, e2, ho⟩ := ho
      obtain ⟨rfl, h⟩ := ho
      refine ⟨e1, ?_⟩
      have T := tp_of e1 e2 T
      have hu0 := (congrFun (congrFun e2 2) 2).trans hu0
      clear e1 e2
      show mx_W m_X4_parse (d + 1) 94 [.ref 2, .retAddr 0, .int v2] [] M1 Q
      refine mx_aload_n 0 (mx_da t_X4_parse 44 rfl) rfl rfl rfl rfl ?_
      refine mx_getI fs_RX4_32 rfl (tp_s T 2 rfl) (mx_da t_X4_parse 45 rfl) rfl ?_
      exact mx_iret rfl (mx_da t_X4_parse 46 rfl) h
  · have h := h.2 g9
    refine mx_aload_n 0 (mx_da t_X4_parse 22 rfl) rfl rfl rfl rfl ?_
    refine mx_getI fs_RX4_32 rfl (tp_s T 2 rfl) (mx_da t_X4_parse 23 rfl) rfl ?_
    refine mx_if_ne 76 (mx_da t_X4_parse 24 rfl) rfl rfl (fun g9 => ?_) (fun g9 => ?_)
    · have h := h.1 g9
      refine mx_aload_n 0 (mx_da t_X4_parse 36 rfl) rfl rfl rfl rfl ?_
      refine mx_getI fs_RX4_32 rfl (tp_s T 2 rfl) (mx_da t_X4_parse 37 rfl) rfl ?_
      refine mx_if_ne 94 (mx_da t_X4_parse 38 rfl) rfl rfl (fun g9 => ?_) (fun g9 => ?_)
      · have h := h.1 g9
        refine mx_aload_n 0 (mx_da t_X4_parse 44 rfl) rfl rfl rfl rfl ?_
        refine mx_getI fs_RX4_32 rfl (tp_s T 2 rfl) (mx_da t_X4_parse 45 rfl) rfl ?_
        exact mx_iret rfl (mx_da t_X4_parse 46 rfl) h
      · have h := h.2 g9
        refine mx_aload_n 0 (mx_da t_X4_parse 39 rfl) rfl rfl rfl rfl ?_
        refine mx_getR 6 fs_RX4_21 rfl (tp_s T 2 rfl) (tp_r T 7 rfl) (mx_da t_X4_parse 40 rfl) rfl ?_
        refine mx_aload_n 0 (mx_da t_X4_parse 41 rfl) rfl rfl rfl rfl ?_
        refine mx_getR u fs_RX4_28 rfl (tp_s T 2 rfl) hu0 (mx_da t_X4_parse 42 rfl) rfl ?_
        refine mx_callV yX7_countFor m_X7_countFor [.ref u] mm_X7_countFor ml_RX4_59 im_X7_countFor se_X7_countFor (tp_s T 6 rfl) rfl rfl (Nat.le_of_ble_eq_true rfl) (mx_da t_X4_parse 43 rfl) rfl (Nat.le_of_ble_eq_true rfl) rfl ?_
        refine mx_mono h ?_
        intro o M2 ho
        obtain ⟨e1, e2, ho⟩ := ho
        obtain ⟨rfl, h⟩ := ho
        refine ⟨e1, ?_⟩
        have T := tp_of e1 e2 T
        have hu0 := (congrFun (congrFun e2 2) 2).trans hu0
        clear e1 e2
        show mx_W m_X4_parse (d + 1) 94 [.ref 2, .retAddr 0, .int v2] [] M2 Q
        refine mx_aload_n 0 (mx_da t_X4_parse 44 rfl) rfl rfl rfl rfl ?_
        refine mx_getI fs_RX4_32 rfl (tp_s T 2 rfl) (mx_da t_X4_parse 45 rfl) rfl ?_
        exact mx_iret rfl (mx_da t_X4_parse 46 rfl) h
    · have h := h.2 g9
      refine mx_aload_n 0 (mx_da t_X4_parse 25 rfl) rfl rfl rfl rfl ?_
      refine mx_getR 3 fs_RX4_12 rfl (tp_s T 2 rfl) (tp_r T 2 rfl) (mx_da t_X4_parse 26 rfl) rfl ?_
      refine mx_getI fs_RX4_49 rfl (tp_s T 3 rfl) (mx_da t_X4_parse 27 rfl) rfl ?_
      refine mx_if_eq 76 (mx_da t_X4_parse 28 rfl) rfl rfl (fun g9 => ?_) (fun g9 => ?_)
      · have h := h.1 g9
        refine mx_aload_n 0 (mx_da t_X4_parse 36 rfl) rfl rfl rfl rfl ?_
        refine mx_getI fs_RX4_32 rfl (tp_s T 2 rfl) (mx_da t_X4_parse 37 rfl) rfl ?_
        refine mx_if_ne 94 (mx_da t_X4_parse 38 rfl) rfl rfl (fun g9 => ?_) (fun g9 => ?_)
        · have h := h.1 g9
          refine mx_aload_n 0 (mx_da t_X4_parse 44 rfl) rfl rfl rfl rfl ?_
          refine mx_getI fs_RX4_32 rfl (tp_s T 2 rfl) (mx_da t_X4_parse 45 rfl) rfl ?_
          exact mx_iret rfl (mx_da t_X4_parse 46 rfl) h
        · have h := h.2 g9
          refine mx_aload_n 0 (mx_da t_X4_parse 39 rfl) rfl rfl rfl rfl ?_
          refine mx_getR 6 fs_RX4_21 rfl (tp_s T 2 rfl) (tp_r T 7 rfl) (mx_da t_X4_parse 40 rfl) rfl ?_
          refine mx_aload_n 0 (mx_da t_X4_parse 41 rfl) rfl rfl rfl rfl ?_
          refine mx_getR u fs_RX4_28 rfl (tp_s T 2 rfl) hu0 (mx_da t_X4_parse 42 rfl) rfl ?_
          refine mx_callV yX7_countFor m_X7_countFor [.ref u] mm_X7_countFor ml_RX4_59 im_X7_countFor se_X7_countFor (tp_s T 6 rfl) rfl rfl (Nat.le_of_ble_eq_true rfl) (mx_da t_X4_parse 43 rfl) rfl (Nat.le_of_ble_eq_true rfl) rfl ?_
          refine mx_mono h ?_
          intro o M3 ho
          obtain ⟨e1, e2, ho⟩ := ho
          obtain ⟨rfl, h⟩ := ho
          refine ⟨e1, ?_⟩
          have T := tp_of e1 e2 T
          have hu0 := (congrFun (congrFun e2 2) 2).trans hu0
          clear e1 e2
          show mx_W m_X4_parse (d + 1) 94 [.ref 2, .retAddr 0, .int v2] [] M3 Q
          refine mx_aload_n 0 (mx_da t_X4_parse 44 rfl) rfl rfl rfl rfl ?_
          refine mx_getI fs_RX4_32 rfl (tp_s T 2 rfl) (mx_da t_X4_parse 45 rfl) rfl ?_
          exact mx_iret rfl (mx_da t_X4_parse 46 rfl) h
      · have h := h.2 g9
        refine mx_aload_n 0 (mx_da t_X4_parse 29 rfl) rfl rfl rfl rfl ?_
        refine mx_callV yX4_takeLine m_X4_takeLine [] mm_X4_takeLine ml_RX4_52 im_X4_takeLine se_X4_takeLine (tp_s T 2 rfl) rfl rfl (Nat.le_of_ble_eq_true rfl) (mx_da t_X4_parse 30 rfl) rfl (Nat.le_of_ble_eq_true rfl) rfl ?_
        refine mx_mono h ?_
        intro o M4 ho
        obtain ⟨e1, e2, ho⟩ := ho
        obtain ⟨x5, rfl, h⟩ := ho
        refine ⟨e1, ?_⟩
        have T := tp_of e1 e2 T
        have hu0 := (congrFun (congrFun e2 2) 2).trans hu0
        clear e1 e2
        show mx_W m_X4_parse (d + 1) 63 [.ref 2, .retAddr 0, .int v2] [.int (mx_b x5)] M4 Q
        refine mx_if_eq 70 (mx_da t_X4_parse 31 rfl) rfl rfl (fun g9 => ?_) (fun g9 => ?_)
        · have h := h.1 (mx_b0.mp g9)
          refine mx_iinc 2 (v := v2 + 1) [.ref 2, .retAddr 0, .int (v2 + 1)] (mx_da t_X4_parse 34 rfl) rfl (by decide) rfl rfl rfl ?_
          refine mx_goto (n := 35) (mx_da t_X4_parse 35 rfl) rfl ?_
          exact h
        · have h := h.2 (mx_bn.mp g9)
          refine mx_aload_n 0 (mx_da t_X4_parse 32 rfl) rfl rfl rfl rfl ?_
          refine mx_callV yX4_endLine m_X4_endLine [] mm_X4_endLine ml_RX4_56 im_X4_endLine se_X4_endLine (tp_s T 2 rfl) rfl rfl (Nat.le_of_ble_eq_true rfl) (mx_da t_X4_parse 33 rfl) rfl (Nat.le_of_ble_eq_true rfl) rfl ?_
          refine mx_mono h ?_
          intro o M6 ho
          obtain ⟨e1, e2, ho⟩ := ho
          obtain ⟨rfl, h⟩ := ho
          refine ⟨e1, ?_⟩
          have T := tp_of e1 e2 T
          have hu0 := (congrFun (congrFun e2 2) 2).trans hu0
          clear e1 e2
          show mx_W m_X4_parse (d + 1) 70 [.ref 2, .retAddr 0, .int v2] [] M6 Q
          refine mx_iinc 2 (v := v2 + 1) [.ref 2, .retAddr 0, .int (v2 + 1)] (mx_da t_X4_parse 34 rfl) rfl (by decide) rfl rfl rfl ?_
          refine mx_goto (n := 35) (mx_da t_X4_parse 35 rfl) rfl ?_
          exact h
set_option maxHeartbeats 1000000 in
theorem x_X4_refuse_0 {d : Nat} {M : mx_M} {Q : mx_O → mx_M → Prop} (T : mx_Tp M) (u : Nat) (hu : mx_Cat u) (hu0 : mx_R M 2 2 = u) (v1 : Int32)
    (h : (∀ M1, M1 = mx_setI M 2 3 v1 → (∀ M2, M2 = mx_setI M1 2 4 (mx_I M1 3 2) → Q (.inl (some (.int (mx_b false)))) M2))) :
    mx_W m_X4_refuse d 0 [.ref 2, .int v1] [] M Q := by
  refine mx_aload_n 0 (mx_da t_X4_refuse 0 rfl) rfl rfl rfl rfl ?_
  refine mx_iload_n 1 (mx_da t_X4_refuse 1 rfl) rfl rfl rfl ?_
  refine mx_putI fs_RX4_32 rfl (tp_s T 2 rfl) rfl rfl rfl (mx_da t_X4_refuse 2 rfl) rfl ?_
  refine mx_gen (mx_setI M 2 3 v1) (fun M1 e9 => ?_)
  have h := h _ e9
  have T : mx_Tp M1 := tp_e e9 T
  have hu0 : mx_R M1 2 2 = u := rr_e e9 hu0
  refine mx_aload_n 0 (mx_da t_X4_refuse 3 rfl) rfl rfl rfl rfl ?_
  refine mx_aload_n 0 (mx_da t_X4_refuse 4 rfl) rfl rfl rfl rfl ?_
  refine mx_getR 3 fs_RX4_12 rfl (tp_s T 2 rfl) (tp_r T 2 rfl) (mx_da t_X4_refuse 5 rfl) rfl ?_
  refine mx_getI fs_RX4_63 rfl (tp_s T 3 rfl) (mx_da t_X4_refuse 6 rfl) rfl ?_
  refine mx_putI fs_RX4_36 rfl (tp_s T 2 rfl) rfl rfl rfl (mx_da t_X4_refuse 7 rfl) rfl ?_
  refine mx_gen (mx_setI M1 2 4 (mx_I M1 3 2)) (fun M2 e9 => ?_)
  have h := h _ e9
  have T : mx_Tp M2 := tp_e e9 T
  have hu0 : mx_R M2 2 2 = u := rr_e e9 hu0
  refine mx_iconst (v := 0) (mx_da t_X4_refuse 8 rfl) rfl rfl ?_
  exact mx_zret rfl rfl (mx_da t_X4_refuse 9 rfl) h
set_option maxHeartbeats 1000000 in
theorem x_X4_endLine_0 {d : Nat} {M : mx_M} {Q : mx_O → mx_M → Prop} (T : mx_Tp M) (u : Nat) (hu : mx_Cat u) (hu0 : mx_R M 2 2 = u)
    (h : (mx_W m_X8_isSign d 0 [.ref 3, .int 59] [] M (fun o M1 => mx_sh M1 = mx_sh M ∧ mx_R M1 = mx_R M ∧ (∃ x2 : Bool, o = .inl (some (.int (mx_b x2))) ∧ ((x2 = false → (mx_W m_X4_refuse d 0 [.ref 2, .int 1] [] M1 (fun o M3 => mx_sh M3 = mx_sh M1 ∧ mx_R M3 = mx_R M1 ∧ (∃ x4 : Bool, o = .inl (some (.int (mx_b x4))) ∧ Q (.inl none) M3)))) ∧ (x2 = true → (mx_W m_X8_step d 0 [.ref 3, .retAddr 0] [] M1 (fun o M5 => mx_sh M5 = mx_sh M1 ∧ mx_R M5 = mx_R M1 ∧ (o = .inl none ∧ Q (.inl none) M5))))))))) :
    mx_W m_X4_endLine (d + 1) 0 [.ref 2] [] M Q := by
  refine mx_aload_n 0 (mx_da t_X4_endLine 0 rfl) rfl rfl rfl rfl ?_
  refine mx_getR 3 fs_RX4_12 rfl (tp_s T 2 rfl) (tp_r T 2 rfl) (mx_da t_X4_endLine 1 rfl) rfl ?_
  refine mx_bipush (v := 59) (mx_da t_X4_endLine 2 rfl) rfl rfl ?_
  refine mx_callV yX8_isSign m_X8_isSign [.int 59] mm_X8_isSign ml_RX4_66 im_X8_isSign se_X8_isSign (tp_s T 3 rfl) rfl rfl (Nat.le_of_ble_eq_true rfl) (mx_da t_X4_endLine 3 rfl) rfl (Nat.le_of_ble_eq_true rfl) rfl ?_
  refine mx_mono h ?_
  intro o M1 ho
  obtain ⟨e1, e2, ho⟩ := ho
  obtain ⟨x2, rfl, h⟩ := ho
  refine ⟨e1, ?_⟩
  have T := tp_of e1 e2 T
  have hu0 := (congrFun (congrFun e2 2) 2).trans hu0
  clear e1 e2
  show mx_W m_X4_endLine (d + 1) 9 [.ref 2] [.int (mx_b x2)] M1 Q
  refine mx_if_eq 22 (mx_da t_X4_endLine 4 rfl) rfl rfl (fun g9 => ?_) (fun g9 => ?_)
  · have h := h.1 (mx_b0.mp g9)
    refine mx_aload_n 0 (mx_da t_X4_endLine 9 rfl) rfl rfl rfl rfl ?_
    refine mx_iconst (v := 1) (mx_da t_X4_endLine 10 rfl) rfl rfl ?_
    refine mx_callV yX4_refuse m_X4_refuse [.int 1] mm_X4_refuse ml_RX4_73 im_X4_refuse se_X4_refuse (tp_s T 2 rfl) rfl rfl (Nat.le_of_ble_eq_true rfl) (mx_da t_X4_endLine 11 rfl) rfl (Nat.le_of_ble_eq_true rfl) rfl ?_
    refine mx_mono h ?_
    intro o M3 ho
    obtain ⟨e1, e2, ho⟩ := ho
    obtain ⟨x4, rfl, h⟩ := ho
    refine ⟨e1, ?_⟩
    have T := tp_of e1 e2 T
    have hu0 := (congrFun (congrFun e2 2) 2).trans hu0
    clear e1 e2
    show mx_W m_X4_endLine (d + 1) 27 [.ref 2] [.int (mx_b x4)] M3 Q
    refine mx_pop (mx_da t_X4_endLine 12 rfl) rfl rfl ?_
    exact mx_vret rfl (mx_da t_X4_endLine 13 rfl) h
  · have h := h.2 (mx_bn.mp g9)
    refine mx_aload_n 0 (mx_da t_X4_endLine 5 rfl) rfl rfl rfl rfl ?_
    refine mx_getR 3 fs_RX4_12 rfl (tp_s T 2 rfl) (tp_r T 2 rfl) (mx_da t_X4_endLine 6 rfl) rfl ?_
    refine mx_callV yX8_step m_X8_step [] mm_X8_step ml_RX4_70 im_X8_step se_X8_step (tp_s T 3 rfl) rfl rfl (Nat.le_of_ble_eq_true rfl) (mx_da t_X4_endLine 7 rfl) rfl (Nat.le_of_ble_eq_true rfl) rfl ?_
    refine mx_mono h ?_
    intro o M5 ho
    obtain ⟨e1, e2, ho⟩ := ho
    obtain ⟨rfl, h⟩ := ho
    refine ⟨e1, ?_⟩
    have T := tp_of e1 e2 T
    have hu0 := (congrFun (congrFun e2 2) 2).trans hu0
    clear e1 e2
    show mx_W m_X4_endLine (d + 1) 19 [.ref 2] [] M5 Q
    refine mx_goto (n := 28) (mx_da t_X4_endLine 8 rfl) rfl ?_
    exact mx_vret rfl (mx_da t_X4_endLine 13 rfl) h
set_option maxHeartbeats 1000000 in
theorem x_X4_takeLine_0 {d : Nat} {M : mx_M} {Q : mx_O → mx_M → Prop} (T : mx_Tp M) (u : Nat) (hu : mx_Cat u) (hu0 : mx_R M 2 2 = u)
    (h : (mx_W m_X8_isWord d 0 [.ref 3, .retAddr 4, .retAddr 0] [] M (fun o M1 => mx_sh M1 = mx_sh M ∧ mx_R M1 = mx_R M ∧ (∃ x2 : Bool, o = .inl (some (.int (mx_b x2))) ∧ ((x2 = false → (mx_W m_X8_isWord d 0 [.ref 3, .retAddr 6, .retAddr 0] [] M1 (fun o M3 => mx_sh M3 = mx_sh M1 ∧ mx_R M3 = mx_R M1 ∧ (∃ x4 : Bool, o = .inl (some (.int (mx_b x4))) ∧ ((x4 = false → ((¬ (mx_I M3 u 13) = 0 → (mx_W m_X8_isWord d 0 [.ref 3, .retAddr 8, .retAddr 0] [] M3 (fun o M5 => mx_sh M5 = mx_sh M3 ∧ mx_R M5 = mx_R M3 ∧ (∃ x6 : Bool, o = .inl (some (.int (mx_b x6))) ∧ ((x6 = true → (mx_W m_X4_takeRule d 0 [.ref 2, .retAddr 0, .retAddr 0, .retAddr 0, .retAddr 0, .retAddr 0] [] M5 (fun o M7 => mx_sh M7 = mx_sh M5 ∧ mx_R M7 = mx_R M5 ∧ (∃ x8 : Bool, o = .inl (some (.int (mx_b x8))) ∧ Q (.inl (some (.int (mx_b x8)))) M7)))) ∧ (x6 = false → (mx_W m_X8_isWord d 0 [.ref 3, .retAddr 10, .retAddr 0] [] M5 (fun o M9 => mx_sh M9 = mx_sh M5 ∧ mx_R M9 = mx_R M5 ∧ (∃ x10 : Bool, o = .inl (some (.int (mx_b x10))) ∧ ((x10 = true → (mx_W m_X4_takeRule d 0 [.ref 2, .retAddr 0, .retAddr 0, .retAddr 0, .retAddr 0, .retAddr 0] [] M9 (fun o M11 => mx_sh M11 = mx_sh M9 ∧ mx_R M11 = mx_R M9 ∧ (∃ x12 : Bool, o = .inl (some (.int (mx_b x12))) ∧ Q (.inl (some (.int (mx_b x12)))) M11)))) ∧ (x10 = false → (mx_W m_X8_isWord d 0 [.ref 3, .retAddr 12, .retAddr 0] [] M9 (fun o M13 => mx_sh M13 = mx_sh M9 ∧ mx_R M13 = mx_R M9 ∧ (∃ x14 : Bool, o = .inl (some (.int (mx_b x14))) ∧ ((x14 = false → (mx_W m_X8_isWord d 0 [.ref 3, .retAddr 14, .retAddr 0] [] M13 (fun o M15 => mx_sh M15 = mx_sh M13 ∧ mx_R M15 = mx_R M13 ∧ (∃ x16 : Bool, o = .inl (some (.int (mx_b x16))) ∧ ((x16 = false → (mx_W m_X8_isWord d 0 [.ref 3, .retAddr 16, .retAddr 0] [] M15 (fun o M17 => mx_sh M17 = mx_sh M15 ∧ mx_R M17 = mx_R M15 ∧ (∃ x18 : Bool, o = .inl (some (.int (mx_b x18))) ∧ ((x18 = false → (mx_W m_X8_isWord d 0 [.ref 3, .retAddr 18, .retAddr 0] [] M17 (fun o M19 => mx_sh M19 = mx_sh M17 ∧ mx_R M19 = mx_R M17 ∧ (∃ x20 : Bool, o = .inl (some (.int (mx_b x20))) ∧ ((x20 = false → (mx_W m_X4_refuse d 0 [.ref 2, .int 1] [] M19 (fun o M21 => mx_sh M21 = mx_sh M19 ∧ mx_R M21 = mx_R M19 ∧ (∃ x22 : Bool, o = .inl (some (.int (mx_b x22))) ∧ Q (.inl (some (.int (mx_b x22)))) M21)))) ∧ (x20 = true → (mx_W m_X4_takeTie d 0 [.ref 2, .retAddr 0, .retAddr 0] [] M19 (fun o M23 => mx_sh M23 = mx_sh M19 ∧ mx_R M23 = mx_R M19 ∧ (∃ x24 : Bool, o = .inl (some (.int (mx_b x24))) ∧ Q (.inl (some (.int (mx_b x24)))) M23))))))))) ∧ (x18 = true → (mx_W m_X4_takeOnce d 0 [.ref 2, .ref (u + 10), .retAddr 0] [] M17 (fun o M25 => mx_sh M25 = mx_sh M17 ∧ mx_R M25 = mx_R M17 ∧ (∃ x26 : Bool, o = .inl (some (.int (mx_b x26))) ∧ Q (.inl (some (.int (mx_b x26)))) M25))))))))) ∧ (x16 = true → (mx_W m_X4_takeOnce d 0 [.ref 2, .ref (u + 9), .retAddr 0] [] M15 (fun o M27 => mx_sh M27 = mx_sh M15 ∧ mx_R M27 = mx_R M15 ∧ (∃ x28 : Bool, o = .inl (some (.int (mx_b x28))) ∧ Q (.inl (some (.int (mx_b x28)))) M27))))))))) ∧ (x14 = true → (mx_W m_X4_takeRule d 0 [.ref 2, .retAddr 0, .retAddr 0, .retAddr 0, .retAddr 0, .retAddr 0] [] M13 (fun o M29 => mx_sh M29 = mx_sh M13 ∧ mx_R M29 = mx_R M13 ∧ (∃ x30 : Bool, o = .inl (some (.int (mx_b x30))) ∧ Q (.inl (some (.int (mx_b x30)))) M29))))))))))))))))))) ∧ ((mx_I M3 u 13) = 0 → (mx_W m_X4_refuse d 0 [.ref 2, .int 1] [] M3 (fun o M31 => mx_sh M31 = mx_sh M3 ∧ mx_R M31 = mx_R M3 ∧ (∃ x32 : Bool, o = .inl (some (.int (mx_b x32))) ∧ Q (.inl (some (.int (mx_b x32)))) M31)))))) ∧ (x4 = true → (mx_W m_X4_takeClerk d 0 [.ref 2] [] M3 (fun o M33 => mx_sh M33 = mx_sh M3 ∧ mx_R M33 = mx_R M3 ∧ (∃ x34 : Bool, o = .inl (some (.int (mx_b x34))) ∧ Q (.inl (some (.int (mx_b x34)))) M33))))))))) ∧ (x2 = true → (mx_W m_X4_takeCard d 0 [.ref 2] [] M1 (fun o M35 => mx_sh M35 = mx_sh M1 ∧ mx_R M35 = mx_R M1 ∧ (∃ x36 : Bool, o = .inl (some (.int (mx_b x36))) ∧ Q (.inl (some (.int (mx_b x36)))) M35))))))))) :
    mx_W m_X4_takeLine (d + 1) 0 [.ref 2] [] M Q := by
  refine mx_aload_n 0 (mx_da t_X4_takeLine 0 rfl) rfl rfl rfl rfl ?_
  refine mx_getR 3 fs_RX4_12 rfl (tp_s T 2 rfl) (tp_r T 2 rfl) (mx_da t_X4_takeLine 1 rfl) rfl ?_
  refine mx_ldcS 1 (by decide) rfl (mx_da t_X4_takeLine 2 rfl) rfl ?_
  refine mx_callV yX8_isWord m_X8_isWord [.retAddr 4] mm_X8_isWord ml_RX4_79 im_X8_isWord se_X8_isWord (tp_s T 3 rfl) rfl rfl (Nat.le_of_ble_eq_true rfl) (mx_da t_X4_takeLine 3 rfl) rfl (Nat.le_of_ble_eq_true rfl) rfl ?_
  refine mx_mono h ?_
  intro o M1 ho
  obtain ⟨e1, e2, ho⟩ := ho
  obtain ⟨x2, rfl, h⟩ := ho
  refine ⟨e1, ?_⟩
  have T := tp_of e1 e2 T
  have hu0 := (congrFun (congrFun e2 2) 2).trans hu0
  clear e1 e2
  show mx_W m_X4_takeLine (d + 1) 9 [.ref 2] [.int (mx_b x2)] M1 Q
  refine mx_if_eq 17 (mx_da t_X4_takeLine 4 rfl) rfl rfl (fun g9 => ?_) (fun g9 => ?_)
  · have h := h.1 (mx_b0.mp g9)
    refine mx_aload_n 0 (mx_da t_X4_takeLine 8 rfl) rfl rfl rfl rfl ?_
    refine mx_getR 3 fs_RX4_12 rfl (tp_s T 2 rfl) (tp_r T 2 rfl) (mx_da t_X4_takeLine 9 rfl) rfl ?_
    refine mx_ldcS 2 (by decide) rfl (mx_da t_X4_takeLine 10 rfl) rfl ?_
    refine mx_callV yX8_isWord m_X8_isWord [.retAddr 6] mm_X8_isWord ml_RX4_79 im_X8_isWord se_X8_isWord (tp_s T 3 rfl) rfl rfl (Nat.le_of_ble_eq_true rfl) (mx_da t_X4_takeLine 11 rfl) rfl (Nat.le_of_ble_eq_true rfl) rfl ?_
    refine mx_mono h ?_
    intro o M3 ho
    obtain ⟨e1, e2, ho⟩ := ho
    obtain ⟨x4, rfl, h⟩ := ho
    refine ⟨e1, ?_⟩
    have T := tp_of e1 e2 T
    have hu0 := (congrFun (congrFun e2 2) 2).trans hu0
    clear e1 e2
    show mx_W m_X4_takeLine (d + 1) 26 [.ref 2] [.int (mx_b x4)] M3 Q
    refine mx_if_eq 34 (mx_da t_X4_takeLine 12 rfl) rfl rfl (fun g9 => ?_) (fun g9 => ?_)
    · have h := h.1 (mx_b0.mp g9)
      refine mx_aload_n 0 (mx_da t_X4_takeLine 16 rfl) rfl rfl rfl rfl ?_
      refine mx_getR u fs_RX4_28 rfl (tp_s T 2 rfl) hu0 (mx_da t_X4_takeLine 17 rfl) rfl ?_
      refine mx_getI fs_RX4_91 rfl (cat_s T hu) (mx_da t_X4_takeLine 18 rfl) rfl ?_
      refine mx_if_ne 50 (mx_da t_X4_takeLine 19 rfl) rfl rfl (fun g9 => ?_) (fun g9 => ?_)
      · have h := h.1 g9
        refine mx_aload_n 0 (mx_da t_X4_takeLine 24 rfl) rfl rfl rfl rfl ?_
        refine mx_getR 3 fs_RX4_12 rfl (tp_s T 2 rfl) (tp_r T 2 rfl) (mx_da t_X4_takeLine 25 rfl) rfl ?_
        refine mx_ldcS 3 (by decide) rfl (mx_da t_X4_takeLine 26 rfl) rfl ?_
        refine mx_callV yX8_isWord m_X8_isWord [.retAddr 8] mm_X8_isWord ml_RX4_79 im_X8_isWord se_X8_isWord (tp_s T 3 rfl) rfl rfl (Nat.le_of_ble_eq_true rfl) (mx_da t_X4_takeLine 27 rfl) rfl (Nat.le_of_ble_eq_true rfl) rfl ?_
        refine mx_mono h ?_
        intro o M5 ho
        obtain ⟨e1, e2, ho⟩ := ho
        obtain ⟨x6, rfl, h⟩ := ho
        refine ⟨e1, ?_⟩
        have T := tp_of e1 e2 T
        have hu0 := (congrFun (congrFun e2 2) 2).trans hu0
        clear e1 e2
        show mx_W m_X4_takeLine (d + 1) 59 [.ref 2] [.int (mx_b x6)] M5 Q
        refine mx_if_ne 86 (mx_da t_X4_takeLine 28 rfl) rfl rfl (fun g9 => ?_) (fun g9 => ?_)
        · have h := h.1 (mx_bn.mp g9)
          refine mx_aload_n 0 (mx_da t_X4_takeLine 39 rfl) rfl rfl rfl rfl ?_
          refine mx_callV yX4_takeRule m_X4_takeRule [] mm_X4_takeRule ml_RX4_100 im_X4_takeRule se_X4_takeRule (tp_s T 2 rfl) rfl rfl (Nat.le_of_ble_eq_true rfl) (mx_da t_X4_takeLine 40 rfl) rfl (Nat.le_of_ble_eq_true rfl) rfl ?_
          refine mx_mono h ?_
          intro o M7 ho
          obtain ⟨e1, e2, ho⟩ := ho
          obtain ⟨x8, rfl, h⟩ := ho
          refine ⟨e1, ?_⟩
          have T := tp_of e1 e2 T
          have hu0 := (congrFun (congrFun e2 2) 2).trans hu0
          clear e1 e2
          show mx_W m_X4_takeLine (d + 1) 90 [.ref 2] [.int (mx_b x8)] M7 Q
          exact mx_zret rfl (mx_bz _) (mx_da t_X4_takeLine 41 rfl) h
        · have h := h.2 (mx_b0.mp g9)
          refine mx_aload_n 0 (mx_da t_X4_takeLine 29 rfl) rfl rfl rfl rfl ?_
          refine mx_getR 3 fs_RX4_12 rfl (tp_s T 2 rfl) (tp_r T 2 rfl) (mx_da t_X4_takeLine 30 rfl) rfl ?_
          refine mx_ldcS 4 (by decide) rfl (mx_da t_X4_takeLine 31 rfl) rfl ?_
          refine mx_callV yX8_isWord m_X8_isWord [.retAddr 10] mm_X8_isWord ml_RX4_79 im_X8_isWord se_X8_isWord (tp_s T 3 rfl) rfl rfl (Nat.le_of_ble_eq_true rfl) (mx_da t_X4_takeLine 32 rfl) rfl (Nat.le_of_ble_eq_true rfl) rfl ?_
          refine mx_mono h ?_
          intro o M9 ho
          obtain ⟨e1, e2, ho⟩ := ho
          obtain ⟨x10, rfl, h⟩ := ho
          refine ⟨e1, ?_⟩
          have T := tp_of e1 e2 T
          have hu0 := (congrFun (congrFun e2 2) 2).trans hu0
          clear e1 e2
          show mx_W m_X4_takeLine (d + 1) 71 [.ref 2] [.int (mx_b x10)] M9 Q
          refine mx_if_ne 86 (mx_da t_X4_takeLine 33 rfl) rfl rfl (fun g9 => ?_) (fun g9 => ?_)
          · have h := h.1 (mx_bn.mp g9)
            refine mx_aload_n 0 (mx_da t_X4_takeLine 39 rfl) rfl rfl rfl rfl ?_
            refine mx_callV yX4_takeRule m_X4_takeRule [] mm_X4_takeRule ml_RX4_100 im_X4_takeRule se_X4_takeRule (tp_s T 2 rfl) rfl rfl (Nat.le_of_ble_eq_true rfl) (mx_da t_X4_takeLine 40 rfl) rfl (Nat.le_of_ble_eq_true rfl) rfl ?_
            refine mx_mono h ?_
            intro o M11 ho
            obtain ⟨e1, e2, ho⟩ := ho
            obtain ⟨x12, rfl, h⟩ := ho
            refine ⟨e1, ?_⟩
            have T := tp_of e1 e2 T
            have hu0 := (congrFun (congrFun e2 2) 2).trans hu0
            clear e1 e2
            show mx_W m_X4_takeLine (d + 1) 90 [.ref 2] [.int (mx_b x12)] M11 Q
            exact mx_zret rfl (mx_bz _) (mx_da t_X4_takeLine 41 rfl) h
          · have h := h.2 (mx_b0.mp g9)
            refine mx_aload_n 0 (mx_da t_X4_takeLine 34 rfl) rfl rfl rfl rfl ?_
            refine mx_getR 3 fs_RX4_12 rfl (tp_s T 2 rfl) (tp_r T 2 rfl) (mx_da t_X4_takeLine 35 rfl) rfl ?_
            refine mx_ldcS 5 (by decide) rfl (mx_da t_X4_takeLine 36 rfl) rfl ?_
            refine mx_callV yX8_isWord m_X8_isWord [.retAddr 12] mm_X8_isWord ml_RX4_79 im_X8_isWord se_X8_isWord (tp_s T 3 rfl) rfl rfl (Nat.le_of_ble_eq_true rfl) (mx_da t_X4_takeLine 37 rfl) rfl (Nat.le_of_ble_eq_true rfl) rfl ?_
            refine mx_mono h ?_
            intro o M13 ho
            obtain ⟨e1, e2, ho⟩ := ho
            obtain ⟨x14, rfl, h⟩ := ho
            refine ⟨e1, ?_⟩
            have T := tp_of e1 e2 T
            have hu0 := (congrFun (congrFun e2 2) 2).trans hu0
            clear e1 e2
            show mx_W m_X4_takeLine (d + 1) 83 [.ref 2] [.int (mx_b x14)] M13 Q
            refine mx_if_eq 91 (mx_da t_X4_takeLine 38 rfl) rfl rfl (fun g9 => ?_) (fun g9 => ?_)
            · have h := h.1 (mx_b0.mp g9)
              refine mx_aload_n 0 (mx_da t_X4_takeLine 42 rfl) rfl rfl rfl rfl ?_
              refine mx_getR 3 fs_RX4_12 rfl (tp_s T 2 rfl) (tp_r T 2 rfl) (mx_da t_X4_takeLine 43 rfl) rfl ?_
              refine mx_ldcS 6 (by decide) rfl (mx_da t_X4_takeLine 44 rfl) rfl ?_
              refine mx_callV yX8_isWord m_X8_isWord [.retAddr 14] mm_X8_isWord ml_RX4_79 im_X8_isWord se_X8_isWord (tp_s T 3 rfl) rfl rfl (Nat.le_of_ble_eq_true rfl) (mx_da t_X4_takeLine 45 rfl) rfl (Nat.le_of_ble_eq_true rfl) rfl ?_
              refine mx_mono h ?_
              intro o M15 ho
              obtain ⟨e1, e2, ho⟩ := ho
              obtain ⟨x16, rfl, h⟩ := ho
              refine ⟨e1, ?_⟩
              have T := tp_of e1 e2 T
              have hu0 := (congrFun (congrFun e2 2) 2).trans hu0
              clear e1 e2
              show mx_W m_X4_takeLine (d + 1) 100 [.ref 2] [.int (mx_b x16)] M15 Q
              refine mx_if_eq 115 (mx_da t_X4_takeLine 46 rfl) rfl rfl (fun g9 => ?_) (fun g9 => ?_)
              · have h := h.1 (mx_b0.mp g9)
                refine mx_aload_n 0 (mx_da t_X4_takeLine 53 rfl) rfl rfl rfl rfl ?_
                refine mx_getR 3 fs_RX4_12 rfl (tp_s T 2 rfl) (tp_r T 2 rfl) (mx_da t_X4_takeLine 54 rfl) rfl ?_
                refine mx_ldcS 7 (by decide) rfl (mx_da t_X4_takeLine 55 rfl) rfl ?_
                refine mx_callV yX8_isWord m_X8_isWord [.retAddr 16] mm_X8_isWord ml_RX4_79 im_X8_isWord se_X8_isWord (tp_s T 3 rfl) rfl rfl (Nat.le_of_ble_eq_true rfl) (mx_da t_X4_takeLine 56 rfl) rfl (Nat.le_of_ble_eq_true rfl) rfl ?_
                refine mx_mono h ?_
                intro o M17 ho
                obtain ⟨e1, e2, ho⟩ := ho
                obtain ⟨x18, rfl, h⟩ := ho
                refine ⟨e1, ?_⟩
                have T := tp_of e1 e2 T
                have hu0 := (congrFun (congrFun e2 2) 2).trans hu0
                clear e1 e2
                show mx_W m_X4_takeLine (d + 1) 124 [.ref 2] [.int (mx_b x18)] M17 Q
                refine mx_if_eq 139 (mx_da t_X4_takeLine 57 rfl) rfl rfl (fun g9 => ?_) (fun g9 => ?_)
                · have h := h.1 (mx_b0.mp g9)
                  refine mx_aload_n 0 (mx_da t_X4_takeLine 64 rfl) rfl rfl rfl rfl ?_
                  refine mx_getR 3 fs_RX4_12 rfl (tp_s T 2 rfl) (tp_r T 2 rfl) (mx_da t_X4_takeLine 65 rfl) rfl ?_
                  refine mx_ldcS 8 (by decide) rfl (mx_da t_X4_takeLine 66 rfl) rfl ?_
                  refine mx_callV yX8_isWord m_X8_isWord [.retAddr 18] mm_X8_isWord ml_RX4_79 im_X8_isWord se_X8_isWord (tp_s T 3 rfl) rfl rfl (Nat.le_of_ble_eq_true rfl) (mx_da t_X4_takeLine 67 rfl) rfl (Nat.le_of_ble_eq_true rfl) rfl ?_
                  refine mx_mono h ?_
                  intro o M19 ho
                  obtain ⟨e1, e2, ho⟩ := ho
                  obtain ⟨x20, rfl, h⟩ := ho
                  refine ⟨e1, ?_⟩
                  have T := tp_of e1 e2 T
                  have hu0 := (congrFun (congrFun e2 2) 2).trans hu0
                  clear e1 e2
                  show mx_W m_X4_takeLine (d + 1) 148 [.ref 2] [.int (mx_b x20)] M19 Q
                  refine mx_if_eq 156 (mx_da t_X4_takeLine 68 rfl) rfl rfl (fun g9 => ?_) (fun g9 => ?_)
                  · have h := h.1 (mx_b0.mp g9)
                    refine mx_aload_n 0 (mx_da t_X4_takeLine 72 rfl) rfl rfl rfl rfl ?_
                    refine mx_iconst (v := 1) (mx_da t_X4_takeLine 73 rfl) rfl rfl ?_
                    refine mx_callV yX4_refuse m_X4_refuse [.int 1] mm_X4_refuse ml_RX4_73 im_X4_refuse se_X4_refuse (tp_s T 2 rfl) rfl rfl (Nat.le_of_ble_eq_true rfl) (mx_da t_X4_takeLine 74 rfl) rfl (Nat.le_of_ble_eq_true rfl) rfl ?_
                    refine mx_mono h ?_
                    intro o M21 ho
                    obtain ⟨e1, e2, ho⟩ := ho
                    obtain ⟨x22, rfl, h⟩ := ho
                    refine ⟨e1, ?_⟩
                    have T := tp_of e1 e2 T
                    have hu0 := (congrFun (congrFun e2 2) 2).trans hu0
                    clear e1 e2
                    show mx_W m_X4_takeLine (d + 1) 161 [.ref 2] [.int (mx_b x22)] M21 Q
                    exact mx_zret rfl (mx_bz _) (mx_da t_X4_takeLine 75 rfl) h
                  · have h := h.2 (mx_bn.mp g9)
                    refine mx_aload_n 0 (mx_da t_X4_takeLine 69 rfl) rfl rfl rfl rfl ?_
                    refine mx_callV yX4_takeTie m_X4_takeTie [] mm_X4_takeTie ml_RX4_120 im_X4_takeTie se_X4_takeTie (tp_s T 2 rfl) rfl rfl (Nat.le_of_ble_eq_true rfl) (mx_da t_X4_takeLine 70 rfl) rfl (Nat.le_of_ble_eq_true rfl) rfl ?_
                    refine mx_mono h ?_
                    intro o M23 ho
                    obtain ⟨e1, e2, ho⟩ := ho
                    obtain ⟨x24, rfl, h⟩ := ho
                    refine ⟨e1, ?_⟩
                    have T := tp_of e1 e2 T
                    have hu0 := (congrFun (congrFun e2 2) 2).trans hu0
                    clear e1 e2
                    show mx_W m_X4_takeLine (d + 1) 155 [.ref 2] [.int (mx_b x24)] M23 Q
                    exact mx_zret rfl (mx_bz _) (mx_da t_X4_takeLine 71 rfl) h
                · have h := h.2 (mx_bn.mp g9)
                  refine mx_aload_n 0 (mx_da t_X4_takeLine 58 rfl) rfl rfl rfl rfl ?_
                  refine mx_aload_n 0 (mx_da t_X4_takeLine 59 rfl) rfl rfl rfl rfl ?_
                  refine mx_getR u fs_RX4_28 rfl (tp_s T 2 rfl) hu0 (mx_da t_X4_takeLine 60 rfl) rfl ?_
                  refine mx_getR (u + 10) fs_RX4_115 rfl (cat_s T hu) (cat_r9 T hu) (mx_da t_X4_takeLine 61 rfl) rfl ?_
                  refine mx_callV yX4_takeOnce m_X4_takeOnce [.ref (u + 10)] mm_X4_takeOnce ml_RX4_109 im_X4_takeOnce se_X4_takeOnce (tp_s T 2 rfl) rfl rfl (Nat.le_of_ble_eq_true rfl) (mx_da t_X4_takeLine 62 rfl) rfl (Nat.le_of_ble_eq_true rfl) rfl ?_
                  refine mx_mono h ?_
                  intro o M25 ho
                  obtain ⟨e1, e2, ho⟩ := ho
                  obtain ⟨x26, rfl, h⟩ := ho
                  refine ⟨e1, ?_⟩
                  have T := tp_of e1 e2 T
                  have hu0 := (congrFun (congrFun e2 2) 2).trans hu0
                  clear e1 e2
                  show mx_W m_X4_takeLine (d + 1) 138 [.ref 2] [.int (mx_b x26)] M25 Q
                  exact mx_zret rfl (mx_bz _) (mx_da t_X4_takeLine 63 rfl) h
              · have h := h.2 (mx_bn.mp g9)
                refine mx_aload_n 0 (mx_da t_X4_takeLine 47 rfl) rfl rfl rfl rfl ?_
                refine mx_aload_n 0 (mx_da t_X4_takeLine 48 rfl) rfl rfl rfl rfl ?_
                refine mx_getR u fs_RX4_28 rfl (tp_s T 2 rfl) hu0 (mx_da t_X4_takeLine 49 rfl) rfl ?_
                refine mx_getR (u + 9) fs_RX4_105 rfl (cat_s T hu) (cat_r8 T hu) (mx_da t_X4_takeLine 50 rfl) rfl ?_
                refine mx_callV yX4_takeOnce m_X4_takeOnce [.ref (u + 9)] mm_X4_takeOnce ml_RX4_109 im_X4_takeOnce se_X4_takeOnce (tp_s T 2 rfl) rfl rfl (Nat.le_of_ble_eq_true rfl) (mx_da t_X4_takeLine 51 rfl) rfl (Nat.le_of_ble_eq_true rfl) rfl ?_
                refine mx_mono h ?_
                intro o M27 ho
                obtain ⟨e1, e2, ho⟩ := ho
                obtain ⟨x28, rfl, h⟩ := ho
                refine ⟨e1, ?_⟩
                have T := tp_of e1 e2 T
                have hu0 := (congrFun (congrFun e2 2) 2).trans hu0
                clear e1 e2
                show mx_W m_X4_takeLine (d + 1) 114 [.ref 2] [.int (mx_b x28)] M27 Q
                exact mx_zret rfl (mx_bz _) (mx_da t_X4_takeLine 52 rfl) h
            · have h := h.2 (mx_bn.mp g9)
              refine mx_aload_n 0 (mx_da t_X4_takeLine 39 rfl) rfl rfl rfl rfl ?_
              refine mx_callV yX4_takeRule m_X4_takeRule [] mm_X4_takeRule ml_RX4_100 im_X4_takeRule se_X4_takeRule (tp_s T 2 rfl) rfl rfl (Nat.le_of_ble_eq_true rfl) (mx_da t_X4_takeLine 40 rfl) rfl (Nat.le_of_ble_eq_true rfl) rfl ?_
              refine mx_mono h ?_
              intro o M29 ho
              obtain ⟨e1, e2, ho⟩ := ho
              obtain ⟨x30, rfl, h⟩ := ho
              refine ⟨e1, ?_⟩
              have T := tp_of e1 e2 T
              have hu0 := (congrFun (congrFun e2 2) 2).trans hu0
              clear e1 e2
              show mx_W m_X4_takeLine (d + 1) 90 [.ref 2] [.int (mx_b x30)] M29 Q
              exact mx_zret rfl (mx_bz _) (mx_da t_X4_takeLine 41 rfl) h
      · have h := h.2 g9
        refine mx_aload_n 0 (mx_da t_X4_takeLine 20 rfl) rfl rfl rfl rfl ?_
        refine mx_iconst (v := 1) (mx_da t_X4_takeLine 21 rfl) rfl rfl ?_
        refine mx_callV yX4_refuse m_X4_refuse [.int 1] mm_X4_refuse ml_RX4_73 im_X4_refuse se_X4_refuse (tp_s T 2 rfl) rfl rfl (Nat.le_of_ble_eq_true rfl) (mx_da t_X4_takeLine 22 rfl) rfl (Nat.le_of_ble_eq_true rfl) rfl ?_
        refine mx_mono h ?_
        intro o M31 ho
        obtain ⟨e1, e2, ho⟩ := ho
        obtain ⟨x32, rfl, h⟩ := ho
        refine ⟨e1, ?_⟩
        have T := tp_of e1 e2 T
        have hu0 := (congrFun (congrFun e2 2) 2).trans hu0
        clear e1 e2
        show mx_W m_X4_takeLine (d + 1) 49 [.ref 2] [.int (mx_b x32)] M31 Q
        exact mx_zret rfl (mx_bz _) (mx_da t_X4_takeLine 23 rfl) h
    · have h := h.2 (mx_bn.mp g9)
      refine mx_aload_n 0 (mx_da t_X4_takeLine 13 rfl) rfl rfl rfl rfl ?_
      refine mx_callV yX4_takeClerk m_X4_takeClerk [] mm_X4_takeClerk ml_RX4_88 im_X4_takeClerk se_X4_takeClerk (tp_s T 2 rfl) rfl rfl (Nat.le_of_ble_eq_true rfl) (mx_da t_X4_takeLine 14 rfl) rfl (Nat.le_of_ble_eq_true rfl) rfl ?_
      refine mx_mono h ?_
      intro o M33 ho
      obtain ⟨e1, e2, ho⟩ := ho
      obtain ⟨x34, rfl, h⟩ := ho
      refine ⟨e1, ?_⟩
      have T := tp_of e1 e2 T
      have hu0 := (congrFun (congrFun e2 2) 2).trans hu0
      clear e1 e2
      show mx_W m_X4_takeLine (d + 1) 33 [.ref 2] [.int (mx_b x34)] M33 Q
      exact mx_zret rfl (mx_bz _) (mx_da t_X4_takeLine 15 rfl) h
  · have h := h.2 (mx_bn.mp g9)
    refine mx_aload_n 0 (mx_da t_X4_takeLine 5 rfl) rfl rfl rfl rfl ?_
    refine mx_callV yX4_takeCard m_X4_takeCard [] mm_X4_takeCard ml_RX4_83 im_X4_takeCard se_X4_takeCard (tp_s T 2 rfl) rfl rfl (Nat.le_of_ble_eq_true rfl) (mx_da t_X4_takeLine 6 rfl) rfl (Nat.le_of_ble_eq_true rfl) rfl ?_
    refine mx_mono h ?_
    intro o M35 ho
    obtain ⟨e1, e2, ho⟩ := ho
    obtain ⟨x36, rfl, h⟩ := ho
    refine ⟨e1, ?_⟩
    have T := tp_of e1 e2 T
    have hu0 := (congrFun (congrFun e2 2) 2).trans hu0
    clear e1 e2
    show mx_W m_X4_takeLine (d + 1) 16 [.ref 2] [.int (mx_b x36)] M35 Q
    exact mx_zret rfl (mx_bz _) (mx_da t_X4_takeLine 7 rfl) h
set_option maxHeartbeats 1000000 in
theorem x_X4_takeCard_0 {d : Nat} {M : mx_M} {Q : mx_O → mx_M → Prop} (T : mx_Tp M) (u : Nat) (hu : mx_Cat u) (hu0 : mx_R M 2 2 = u)
    (h : ((¬ (mx_I M u 12) = (10 : Int32) → (mx_W m_X8_step d 0 [.ref 3, .retAddr 0] [] M (fun o M1 => mx_sh M1 = mx_sh M ∧ mx_R M1 = mx_R M ∧ (o = .inl none ∧ (((mx_I M1 3 4) = (2 : Int32) → (((4 : Int32) < (mx_I M1 3 3) → (mx_W m_X4_refuse d 0 [.ref 2, .int 2] [] M1 (fun o M2 => mx_sh M2 = mx_sh M1 ∧ mx_R M2 = mx_R M1 ∧ (∃ x3 : Bool, o = .inl (some (.int (mx_b x3))) ∧ Q (.inl (some (.int (mx_b x3)))) M2)))) ∧ (¬ (4 : Int32) < (mx_I M1 3 3) → (((mx_I M1 3 5) ≤ (999 : Int32) → (mx_W m_X1_addCard d 0 [.ref u, .int (mx_I M1 3 5)] [] M1 (fun o M4 => mx_sh M4 = mx_sh M1 ∧ mx_R M4 = mx_R M1 ∧ (o = .inl none ∧ (mx_W m_X8_step d 0 [.ref 3, .retAddr 0] [] M4 (fun o M5 => mx_sh M5 = mx_sh M4 ∧ mx_R M5 = mx_R M4 ∧ (o = .inl none ∧ (mx_W m_X4_takeHeading d 0 [.ref 2, .retAddr 0] [] M5 (fun o M6 => mx_sh M6 = mx_sh M5 ∧ mx_R M6 = mx_R M5 ∧ (∃ x7 : Bool, o = .inl (some (.int (mx_b x7))) ∧ Q (.inl (some (.int (mx_b x7)))) M6)))))))))) ∧ (¬ (mx_I M1 3 5) ≤ (999 : Int32) → (mx_W m_X4_refuse d 0 [.ref 2, .int 2] [] M1 (fun o M8 => mx_sh M8 = mx_sh M1 ∧ mx_R M8 = mx_R M1 ∧ (∃ x9 : Bool, o = .inl (some (.int (mx_b x9))) ∧ Q (.inl (some (.int (mx_b x9)))) M8)))))))) ∧ (¬ (mx_I M1 3 4) = (2 : Int32) → (mx_W m_X4_refuse d 0 [.ref 2, .int 1] [] M1 (fun o M10 => mx_sh M10 = mx_sh M1 ∧ mx_R M10 = mx_R M1 ∧ (∃ x11 : Bool, o = .inl (some (.int (mx_b x11))) ∧ Q (.inl (some (.int (mx_b x11)))) M10))))))))) ∧ ((mx_I M u 12) = (10 : Int32) → (mx_W m_X4_refuse d 0 [.ref 2, .int 2] [] M (fun o M12 => mx_sh M12 = mx_sh M ∧ mx_R M12 = mx_R M ∧ (∃ x13 : Bool, o = .inl (some (.int (mx_b x13))) ∧ Q (.inl (some (.int (mx_b x13)))) M12)))))) :
    mx_W m_X4_takeCard (d + 1) 0 [.ref 2] [] M Q := by
  refine mx_aload_n 0 (mx_da t_X4_takeCard 0 rfl) rfl rfl rfl rfl ?_
  refine mx_getR u fs_RX4_28 rfl (tp_s T 2 rfl) hu0 (mx_da t_X4_takeCard 1 rfl) rfl ?_
  refine mx_getI fs_RX4_123 rfl (cat_s T hu) (mx_da t_X4_takeCard 2 rfl) rfl ?_
  refine mx_bipush (v := 10) (mx_da t_X4_takeCard 3 rfl) rfl rfl ?_
  refine mx_icmp_ne 18 (mx_da t_X4_takeCard 4 rfl) rfl rfl (fun g9 => ?_) (fun g9 => ?_)
  · have h := h.1 g9
    refine mx_aload_n 0 (mx_da t_X4_takeCard 9 rfl) rfl rfl rfl rfl ?_
    refine mx_getR 3 fs_RX4_12 rfl (tp_s T 2 rfl) (tp_r T 2 rfl) (mx_da t_X4_takeCard 10 rfl) rfl ?_
    refine mx_callV yX8_step m_X8_step [] mm_X8_step ml_RX4_70 im_X8_step se_X8_step (tp_s T 3 rfl) rfl rfl (Nat.le_of_ble_eq_true rfl) (mx_da t_X4_takeCard 11 rfl) rfl (Nat.le_of_ble_eq_true rfl) rfl ?_
    refine mx_mono h ?_
    intro o M1 ho
    obtain ⟨e1, e2, ho⟩ := ho
    obtain ⟨rfl, h⟩ := ho
    refine ⟨e1, ?_⟩
    have T := tp_of e1 e2 T
    have hu0 := (congrFun (congrFun e2 2) 2).trans hu0
    clear e1 e2
    show mx_W m_X4_takeCard (d + 1) 25 [.ref 2] [] M1 Q
    refine mx_aload_n 0 (mx_da t_X4_takeCard 12 rfl) rfl rfl rfl rfl ?_
    refine mx_getR 3 fs_RX4_12 rfl (tp_s T 2 rfl) (tp_r T 2 rfl) (mx_da t_X4_takeCard 13 rfl) rfl ?_
    refine mx_getI fs_RX4_49 rfl (tp_s T 3 rfl) (mx_da t_X4_takeCard 14 rfl) rfl ?_
    refine mx_iconst (v := 2) (mx_da t_X4_takeCard 15 rfl) rfl rfl ?_
    refine mx_icmp_eq 42 (mx_da t_X4_takeCard 16 rfl) rfl rfl (fun g9 => ?_) (fun g9 => ?_)
    · have h := h.1 g9
      refine mx_aload_n 0 (mx_da t_X4_takeCard 21 rfl) rfl rfl rfl rfl ?_
      refine mx_getR 3 fs_RX4_12 rfl (tp_s T 2 rfl) (tp_r T 2 rfl) (mx_da t_X4_takeCard 22 rfl) rfl ?_
      refine mx_getI fs_RX4_126 rfl (tp_s T 3 rfl) (mx_da t_X4_takeCard 23 rfl) rfl ?_
      refine mx_iconst (v := 4) (mx_da t_X4_takeCard 24 rfl) rfl rfl ?_
      refine mx_icmp_gt 66 (mx_da t_X4_takeCard 25 rfl) rfl rfl (fun g9 => ?_) (fun g9 => ?_)
      · have h := h.1 g9
        refine mx_aload_n 0 (mx_da t_X4_takeCard 31 rfl) rfl rfl rfl rfl ?_
        refine mx_iconst (v := 2) (mx_da t_X4_takeCard 32 rfl) rfl rfl ?_
        refine mx_callV yX4_refuse m_X4_refuse [.int 2] mm_X4_refuse ml_RX4_73 im_X4_refuse se_X4_refuse (tp_s T 2 rfl) rfl rfl (Nat.le_of_ble_eq_true rfl) (mx_da t_X4_takeCard 33 rfl) rfl (Nat.le_of_ble_eq_true rfl) rfl ?_
        refine mx_mono h ?_
        intro o M2 ho
        obtain ⟨e1, e2, ho⟩ := ho
        obtain ⟨x3, rfl, h⟩ := ho
        refine ⟨e1, ?_⟩
        have T := tp_of e1 e2 T
        have hu0 := (congrFun (congrFun e2 2) 2).trans hu0
        clear e1 e2
        show mx_W m_X4_takeCard (d + 1) 71 [.ref 2] [.int (mx_b x3)] M2 Q
        exact mx_zret rfl (mx_bz _) (mx_da t_X4_takeCard 34 rfl) h
      · have h := h.2 g9
        refine mx_aload_n 0 (mx_da t_X4_takeCard 26 rfl) rfl rfl rfl rfl ?_
        refine mx_getR 3 fs_RX4_12 rfl (tp_s T 2 rfl) (tp_r T 2 rfl) (mx_da t_X4_takeCard 27 rfl) rfl ?_
        refine mx_getI fs_RX4_127 rfl (tp_s T 3 rfl) (mx_da t_X4_takeCard 28 rfl) rfl ?_
        refine mx_sipush (v := 999) (mx_da t_X4_takeCard 29 rfl) rfl rfl ?_
        refine mx_icmp_le 72 (mx_da t_X4_takeCard 30 rfl) rfl rfl (fun g9 => ?_) (fun g9 => ?_)
        · have h := h.1 g9
          refine mx_aload_n 0 (mx_da t_X4_takeCard 35 rfl) rfl rfl rfl rfl ?_
          refine mx_getR u fs_RX4_28 rfl (tp_s T 2 rfl) hu0 (mx_da t_X4_takeCard 36 rfl) rfl ?_
          refine mx_aload_n 0 (mx_da t_X4_takeCard 37 rfl) rfl rfl rfl rfl ?_
          refine mx_getR 3 fs_RX4_12 rfl (tp_s T 2 rfl) (tp_r T 2 rfl) (mx_da t_X4_takeCard 38 rfl) rfl ?_
          refine mx_getI fs_RX4_127 rfl (tp_s T 3 rfl) (mx_da t_X4_takeCard 39 rfl) rfl ?_
          refine mx_callV yX1_addCard m_X1_addCard [.int (mx_I M1 3 5)] mm_X1_addCard ml_RX4_130 im_X1_addCard se_X1_addCard (cat_s T hu) rfl rfl (Nat.le_of_ble_eq_true rfl) (mx_da t_X4_takeCard 40 rfl) rfl (Nat.le_of_ble_eq_true rfl) rfl ?_
          refine mx_mono h ?_
          intro o M4 ho
          obtain ⟨e1, e2, ho⟩ := ho
          obtain ⟨rfl, h⟩ := ho
          refine ⟨e1, ?_⟩
          have T := tp_of e1 e2 T
          have hu0 := (congrFun (congrFun e2 2) 2).trans hu0
          clear e1 e2
          show mx_W m_X4_takeCard (d + 1) 86 [.ref 2] [] M4 Q
          refine mx_aload_n 0 (mx_da t_X4_takeCard 41 rfl) rfl rfl rfl rfl ?_
          refine mx_getR 3 fs_RX4_12 rfl (tp_s T 2 rfl) (tp_r T 2 rfl) (mx_da t_X4_takeCard 42 rfl) rfl ?_
          refine mx_callV yX8_step m_X8_step [] mm_X8_step ml_RX4_70 im_X8_step se_X8_step (tp_s T 3 rfl) rfl rfl (Nat.le_of_ble_eq_true rfl) (mx_da t_X4_takeCard 43 rfl) rfl (Nat.le_of_ble_eq_true rfl) rfl ?_
          refine mx_mono h ?_
          intro o M5 ho
          obtain ⟨e1, e2, ho⟩ := ho
          obtain ⟨rfl, h⟩ := ho
          refine ⟨e1, ?_⟩
          have T := tp_of e1 e2 T
          have hu0 := (congrFun (congrFun e2 2) 2).trans hu0
          clear e1 e2
          show mx_W m_X4_takeCard (d + 1) 93 [.ref 2] [] M5 Q
          refine mx_aload_n 0 (mx_da t_X4_takeCard 44 rfl) rfl rfl rfl rfl ?_
          refine mx_callV yX4_takeHeading m_X4_takeHeading [] mm_X4_takeHeading ml_RX4_133 im_X4_takeHeading se_X4_takeHeading (tp_s T 2 rfl) rfl rfl (Nat.le_of_ble_eq_true rfl) (mx_da t_X4_takeCard 45 rfl) rfl (Nat.le_of_ble_eq_true rfl) rfl ?_
          refine mx_mono h ?_
          intro o M6 ho
          obtain ⟨e1, e2, ho⟩ := ho
          obtain ⟨x7, rfl, h⟩ := ho
          refine ⟨e1, ?_⟩
          have T := tp_of e1 e2 T
          have hu0 := (congrFun (congrFun e2 2) 2).trans hu0
          clear e1 e2
          show mx_W m_X4_takeCard (d + 1) 97 [.ref 2] [.int (mx_b x7)] M6 Q
          exact mx_zret rfl (mx_bz _) (mx_da t_X4_takeCard 46 rfl) h
        · have h := h.2 g9
          refine mx_aload_n 0 (mx_da t_X4_takeCard 31 rfl) rfl rfl rfl rfl ?_
          refine mx_iconst (v := 2) (mx_da t_X4_takeCard 32 rfl) rfl rfl ?_
          refine mx_callV yX4_refuse m_X4_refuse [.int 2] mm_X4_refuse ml_RX4_73 im_X4_refuse se_X4_refuse (tp_s T 2 rfl) rfl rfl (Nat.le_of_ble_eq_true rfl) (mx_da t_X4_takeCard 33 rfl) rfl (Nat.le_of_ble_eq_true rfl) rfl ?_
          refine mx_mono h ?_
          intro o M8 ho
          obtain ⟨e1, e2, ho⟩ := ho
          obtain ⟨x9, rfl, h⟩ := ho
          refine ⟨e1, ?_⟩
          have T := tp_of e1 e2 T
          have hu0 := (congrFun (congrFun e2 2) 2).trans hu0
          clear e1 e2
          show mx_W m_X4_takeCard (d + 1) 71 [.ref 2] [.int (mx_b x9)] M8 Q
          exact mx_zret rfl (mx_bz _) (mx_da t_X4_takeCard 34 rfl) h
    · have h := h.2 g9
      refine mx_aload_n 0 (mx_da t_X4_takeCard 17 rfl) rfl rfl rfl rfl ?_
      refine mx_iconst (v := 1) (mx_da t_X4_takeCard 18 rfl) rfl rfl ?_
      refine mx_callV yX4_refuse m_X4_refuse [.int 1] mm_X4_refuse ml_RX4_73 im_X4_refuse se_X4_refuse (tp_s T 2 rfl) rfl rfl (Nat.le_of_ble_eq_true rfl) (mx_da t_X4_takeCard 19 rfl) rfl (Nat.le_of_ble_eq_true rfl) rfl ?_
      refine mx_mono h ?_
      intro o M10 ho
      obtain ⟨e1, e2, ho⟩ := ho
      obtain ⟨x11, rfl, h⟩ := ho
      refine ⟨e1, ?_⟩
      have T := tp_of e1 e2 T
      have hu0 := (congrFun (congrFun e2 2) 2).trans hu0
      clear e1 e2
      show mx_W m_X4_takeCard (d + 1) 41 [.ref 2] [.int (mx_b x11)] M10 Q
      exact mx_zret rfl (mx_bz _) (mx_da t_X4_takeCard 20 rfl) h
  · have h := h.2 g9
    refine mx_aload_n 0 (mx_da t_X4_takeCard 5 rfl) rfl rfl rfl rfl ?_
    refine mx_iconst (v := 2) (mx_da t_X4_takeCard 6 rfl) rfl rfl ?_
    refine mx_callV yX4_refuse m_X4_refuse [.int 2] mm_X4_refuse ml_RX4_73 im_X4_refuse se_X4_refuse (tp_s T 2 rfl) rfl rfl (Nat.le_of_ble_eq_true rfl) (mx_da t_X4_takeCard 7 rfl) rfl (Nat.le_of_ble_eq_true rfl) rfl ?_
    refine mx_mono h ?_
    intro o M12 ho
    obtain ⟨e1, e2, ho⟩ := ho
    obtain ⟨x13, rfl, h⟩ := ho
    refine ⟨e1, ?_⟩
    have T := tp_of e1 e2 T
    have hu0 := (congrFun (congrFun e2 2) 2).trans hu0
    clear e1 e2
    show mx_W m_X4_takeCard (d + 1) 17 [.ref 2] [.int (mx_b x13)] M12 Q
    exact mx_zret rfl (mx_bz _) (mx_da t_X4_takeCard 8 rfl) h
set_option maxHeartbeats 1000000 in
theorem x_X4_takeHeading_0 {d : Nat} {M : mx_M} {Q : mx_O → mx_M → Prop} (T : mx_Tp M) (u : Nat) (hu : mx_Cat u) (hu0 : mx_R M 2 2 = u)
    (h : mx_W m_X4_takeHeading (d + 1) 2 [.ref 2, .int 0] [] M Q) :
    mx_W m_X4_takeHeading (d + 1) 0 [.ref 2, .retAddr 0] [] M Q := by
  refine mx_iconst (v := 0) (mx_da t_X4_takeHeading 0 rfl) rfl rfl ?_
  refine mx_istore_n 1 [.ref 2, .int 0] (mx_da t_X4_takeHeading 1 rfl) rfl rfl (by decide) rfl ?_
  exact h
set_option maxHeartbeats 1000000 in
theorem x_X4_takeHeading_2 {d : Nat} {M : mx_M} {Q : mx_O → mx_M → Prop} (T : mx_Tp M) (u : Nat) (hu : mx_Cat u) (hu0 : mx_R M 2 2 = u) (v1 : Int32)
    (h : (((4 : Int32) ≤ v1 → ((¬ (mx_I M 3 4) = (1 : Int32) → Q (.inl (some (.int (mx_b true)))) M) ∧ ((mx_I M 3 4) = (1 : Int32) → (mx_W m_X4_refuse d 0 [.ref 2, .int 2] [] M (fun o M1 => mx_sh M1 = mx_sh M ∧ mx_R M1 = mx_R M ∧ (∃ x2 : Bool, o = .inl (some (.int (mx_b x2))) ∧ ((x2 = false → Q (.inl (some (.int (mx_b false)))) M1) ∧ (x2 = true → Q (.inl (some (.int (mx_b true)))) M1)))))))) ∧ (¬ (4 : Int32) ≤ v1 → ((v1 = 0 → (mx_W m_X4_isWordUpTo d 0 [.ref 2, .int 8] [] M (fun o M3 => mx_sh M3 = mx_sh M ∧ mx_R M3 = mx_R M ∧ (∃ x4 : Bool, o = .inl (some (.int (mx_b x4))) ∧ ((x4 = true → (mx_W m_X1_addWord d 0 [.ref u, .long (mx_J M3 3 6), .retAddr 0, .int (mx_I M3 3 3), .retAddr 0] [] M3 (fun o M5 => mx_sh M5 = mx_sh M3 ∧ mx_R M5 = mx_R M3 ∧ (o = .inl none ∧ (mx_W m_X8_step d 0 [.ref 3, .retAddr 0] [] M5 (fun o M6 => mx_sh M6 = mx_sh M5 ∧ mx_R M6 = mx_R M5 ∧ (o = .inl none ∧ mx_W m_X4_takeHeading (d + 1) 2 [.ref 2, .int (v1 + 1)] [] M6 Q))))))) ∧ (x4 = false → Q (.inl (some (.int (mx_b false)))) M3)))))) ∧ (¬ v1 = 0 → ((¬ (mx_I M 3 4) = (1 : Int32) → ((¬ (mx_I M 3 4) = (1 : Int32) → Q (.inl (some (.int (mx_b true)))) M) ∧ ((mx_I M 3 4) = (1 : Int32) → (mx_W m_X4_refuse d 0 [.ref 2, .int 2] [] M (fun o M7 => mx_sh M7 = mx_sh M ∧ mx_R M7 = mx_R M ∧ (∃ x8 : Bool, o = .inl (some (.int (mx_b x8))) ∧ ((x8 = false → Q (.inl (some (.int (mx_b false)))) M7) ∧ (x8 = true → Q (.inl (some (.int (mx_b true)))) M7)))))))) ∧ ((mx_I M 3 4) = (1 : Int32) → (mx_W m_X4_isWordUpTo d 0 [.ref 2, .int 8] [] M (fun o M9 => mx_sh M9 = mx_sh M ∧ mx_R M9 = mx_R M ∧ (∃ x10 : Bool, o = .inl (some (.int (mx_b x10))) ∧ ((x10 = true → (mx_W m_X1_addWord d 0 [.ref u, .long (mx_J M9 3 6), .retAddr 0, .int (mx_I M9 3 3), .retAddr 0] [] M9 (fun o M11 => mx_sh M11 = mx_sh M9 ∧ mx_R M11 = mx_R M9 ∧ (o = .inl none ∧ (mx_W m_X8_step d 0 [.ref 3, .retAddr 0] [] M11 (fun o M12 => mx_sh M12 = mx_sh M11 ∧ mx_R M12 = mx_R M11 ∧ (o = .inl none ∧ mx_W m_X4_takeHeading (d + 1) 2 [.ref 2, .int (v1 + 1)] [] M12 Q))))))) ∧ (x10 = false → Q (.inl (some (.int (mx_b false)))) M9)))))))))))) :
    mx_W m_X4_takeHeading (d + 1) 2 [.ref 2, .int v1] [] M Q := by
  refine mx_iload_n 1 (mx_da t_X4_takeHeading 2 rfl) rfl rfl rfl ?_
  refine mx_iconst (v := 4) (mx_da t_X4_takeHeading 3 rfl) rfl rfl ?_
  refine mx_icmp_ge 67 (mx_da t_X4_takeHeading 4 rfl) rfl rfl (fun g9 => ?_) (fun g9 => ?_)
  · have h := h.1 g9
    refine mx_aload_n 0 (mx_da t_X4_takeHeading 32 rfl) rfl rfl rfl rfl ?_
    refine mx_getR 3 fs_RX4_12 rfl (tp_s T 2 rfl) (tp_r T 2 rfl) (mx_da t_X4_takeHeading 33 rfl) rfl ?_
    refine mx_getI fs_RX4_49 rfl (tp_s T 3 rfl) (mx_da t_X4_takeHeading 34 rfl) rfl ?_
    refine mx_iconst (v := 1) (mx_da t_X4_takeHeading 35 rfl) rfl rfl ?_
    refine mx_icmp_ne 86 (mx_da t_X4_takeHeading 36 rfl) rfl rfl (fun g9 => ?_) (fun g9 => ?_)
    · have h := h.1 g9
      refine mx_iconst (v := 1) (mx_da t_X4_takeHeading 41 rfl) rfl rfl ?_
      refine mx_goto (n := 91) (mx_da t_X4_takeHeading 42 rfl) rfl ?_
      exact mx_zret rfl rfl (mx_da t_X4_takeHeading 44 rfl) h
    · have h := h.2 g9
      refine mx_aload_n 0 (mx_da t_X4_takeHeading 37 rfl) rfl rfl rfl rfl ?_
      refine mx_iconst (v := 2) (mx_da t_X4_takeHeading 38 rfl) rfl rfl ?_
      refine mx_callV yX4_refuse m_X4_refuse [.int 2] mm_X4_refuse ml_RX4_73 im_X4_refuse se_X4_refuse (tp_s T 2 rfl) rfl rfl (Nat.le_of_ble_eq_true rfl) (mx_da t_X4_takeHeading 39 rfl) rfl (Nat.le_of_ble_eq_true rfl) rfl ?_
      refine mx_mono h ?_
      intro o M1 ho
      obtain ⟨e1, e2, ho⟩ := ho
      obtain ⟨x2, rfl, h⟩ := ho
      refine ⟨e1, ?_⟩
      have T := tp_of e1 e2 T
      have hu0 := (congrFun (congrFun e2 2) 2).trans hu0
      clear e1 e2
      show mx_W m_X4_takeHeading (d + 1) 83 [.ref 2, .int v1] [.int (mx_b x2)] M1 Q
      refine mx_if_eq 90 (mx_da t_X4_takeHeading 40 rfl) rfl rfl (fun g9 => ?_) (fun g9 => ?_)
      · have h := h.1 (mx_b0.mp g9)
        refine mx_iconst (v := 0) (mx_da t_X4_takeHeading 43 rfl) rfl rfl ?_
        exact mx_zret rfl rfl (mx_da t_X4_takeHeading 44 rfl) h
      · have h := h.2 (mx_bn.mp g9)
        refine mx_iconst (v := 1) (mx_da t_X4_takeHeading 41 rfl) rfl rfl ?_
        refine mx_goto (n := 91) (mx_da t_X4_takeHeading 42 rfl) rfl ?_
        exact mx_zret rfl rfl (mx_da t_X4_takeHeading 44 rfl) h
  · have h := h.2 g9
    refine mx_iload_n 1 (mx_da t_X4_takeHeading 5 rfl) rfl rfl rfl ?_
    refine mx_if_eq 22 (mx_da t_X4_takeHeading 6 rfl) rfl rfl (fun g9 => ?_) (fun g9 => ?_)
    · have h := h.1 g9
      refine mx_aload_n 0 (mx_da t_X4_takeHeading 12 rfl) rfl rfl rfl rfl ?_
      refine mx_bipush (v := 8) (mx_da t_X4_takeHeading 13 rfl) rfl rfl ?_
      refine mx_callV yX4_isWordUpTo m_X4_isWordUpTo [.int 8] mm_X4_isWordUpTo ml_RX4_136 im_X4_isWordUpTo se_X4_isWordUpTo (tp_s T 2 rfl) rfl rfl (Nat.le_of_ble_eq_true rfl) (mx_da t_X4_takeHeading 14 rfl) rfl (Nat.le_of_ble_eq_true rfl) rfl ?_
      refine mx_mono h ?_
      intro o M3 ho
      obtain ⟨e1, e2, ho⟩ := ho
      obtain ⟨x4, rfl, h⟩ := ho
      refine ⟨e1, ?_⟩
      have T := tp_of e1 e2 T
      have hu0 := (congrFun (congrFun e2 2) 2).trans hu0
      clear e1 e2
      show mx_W m_X4_takeHeading (d + 1) 28 [.ref 2, .int v1] [.int (mx_b x4)] M3 Q
      refine mx_if_ne 33 (mx_da t_X4_takeHeading 15 rfl) rfl rfl (fun g9 => ?_) (fun g9 => ?_)
      · have h := h.1 (mx_bn.mp g9)
        refine mx_aload_n 0 (mx_da t_X4_takeHeading 18 rfl) rfl rfl rfl rfl ?_
        refine mx_getR u fs_RX4_28 rfl (tp_s T 2 rfl) hu0 (mx_da t_X4_takeHeading 19 rfl) rfl ?_
        refine mx_aload_n 0 (mx_da t_X4_takeHeading 20 rfl) rfl rfl rfl rfl ?_
        refine mx_getR 3 fs_RX4_12 rfl (tp_s T 2 rfl) (tp_r T 2 rfl) (mx_da t_X4_takeHeading 21 rfl) rfl ?_
        refine mx_getJ fs_RX4_139 rfl (tp_s T 3 rfl) (mx_da t_X4_takeHeading 22 rfl) rfl ?_
        refine mx_aload_n 0 (mx_da t_X4_takeHeading 23 rfl) rfl rfl rfl rfl ?_
        refine mx_getR 3 fs_RX4_12 rfl (tp_s T 2 rfl) (tp_r T 2 rfl) (mx_da t_X4_takeHeading 24 rfl) rfl ?_
        refine mx_getI fs_RX4_126 rfl (tp_s T 3 rfl) (mx_da t_X4_takeHeading 25 rfl) rfl ?_
        refine mx_callV yX1_addWord m_X1_addWord [.long (mx_J M3 3 6), .int (mx_I M3 3 3)] mm_X1_addWord ml_RX4_143 im_X1_addWord se_X1_addWord (cat_s T hu) rfl rfl (Nat.le_of_ble_eq_true rfl) (mx_da t_X4_takeHeading 26 rfl) rfl (Nat.le_of_ble_eq_true rfl) rfl ?_
        refine mx_mono h ?_
        intro o M5 ho
        obtain ⟨e1, e2, ho⟩ := ho
        obtain ⟨rfl, h⟩ := ho
        refine ⟨e1, ?_⟩
        have T := tp_of e1 e2 T
        have hu0 := (congrFun (congrFun e2 2) 2).trans hu0
        clear e1 e2
        show mx_W m_X4_takeHeading (d + 1) 54 [.ref 2, .int v1] [] M5 Q
        refine mx_aload_n 0 (mx_da t_X4_takeHeading 27 rfl) rfl rfl rfl rfl ?_
        refine mx_getR 3 fs_RX4_12 rfl (tp_s T 2 rfl) (tp_r T 2 rfl) (mx_da t_X4_takeHeading 28 rfl) rfl ?_
        refine mx_callV yX8_step m_X8_step [] mm_X8_step ml_RX4_70 im_X8_step se_X8_step (tp_s T 3 rfl) rfl rfl (Nat.le_of_ble_eq_true rfl) (mx_da t_X4_takeHeading 29 rfl) rfl (Nat.le_of_ble_eq_true rfl) rfl ?_
        refine mx_mono h ?_
        intro o M6 ho
        obtain ⟨e1, e2, ho⟩ := ho
        obtain ⟨rfl, h⟩ := ho
        refine ⟨e1, ?_⟩
        have T := tp_of e1 e2 T
        have hu0 := (congrFun (congrFun e2 2) 2).trans hu0
        clear e1 e2
        show mx_W m_X4_takeHeading (d + 1) 61 [.ref 2, .int v1] [] M6 Q
        refine mx_iinc 1 (v := v1 + 1) [.ref 2, .int (v1 + 1)] (mx_da t_X4_takeHeading 30 rfl) rfl (by decide) rfl rfl rfl ?_
        refine mx_goto (n := 2) (mx_da t_X4_takeHeading 31 rfl) rfl ?_
        exact h
      · have h := h.2 (mx_b0.mp g9)
        refine mx_iconst (v := 0) (mx_da t_X4_takeHeading 16 rfl) rfl rfl ?_
        exact mx_zret rfl rfl (mx_da t_X4_takeHeading 17 rfl) h
    · have h := h.2 g9
      refine mx_aload_n 0 (mx_da t_X4_takeHeading 7 rfl) rfl rfl rfl rfl ?_
      refine mx_getR 3 fs_RX4_12 rfl (tp_s T 2 rfl) (tp_r T 2 rfl) (mx_da t_X4_takeHeading 8 rfl) rfl ?_
      refine mx_getI fs_RX4_49 rfl (tp_s T 3 rfl) (mx_da t_X4_takeHeading 9 rfl) rfl ?_
      refine mx_iconst (v := 1) (mx_da t_X4_takeHeading 10 rfl) rfl rfl ?_
      refine mx_icmp_ne 67 (mx_da t_X4_takeHeading 11 rfl) rfl rfl (fun g9 => ?_) (fun g9 => ?_)
      · have h := h.1 g9
        refine mx_aload_n 0 (mx_da t_X4_takeHeading 32 rfl) rfl rfl rfl rfl ?_
        refine mx_getR 3 fs_RX4_12 rfl (tp_s T 2 rfl) (tp_r T 2 rfl) (mx_da t_X4_takeHeading 33 rfl) rfl ?_
        refine mx_getI fs_RX4_49 rfl (tp_s T 3 rfl) (mx_da t_X4_takeHeading 34 rfl) rfl ?_
        refine mx_iconst (v := 1) (mx_da t_X4_takeHeading 35 rfl) rfl rfl ?_
        refine mx_icmp_ne 86 (mx_da t_X4_takeHeading 36 rfl) rfl rfl (fun g9 => ?_) (fun g9 => ?_)
        · have h := h.1 g9
          refine mx_iconst (v := 1) (mx_da t_X4_takeHeading 41 rfl) rfl rfl ?_
          refine mx_goto (n := 91) (mx_da t_X4_takeHeading 42 rfl) rfl ?_
          exact mx_zret rfl rfl (mx_da t_X4_takeHeading 44 rfl) h
        · have h := h.2 g9
          refine mx_aload_n 0 (mx_da t_X4_takeHeading 37 rfl) rfl rfl rfl rfl ?_
          refine mx_iconst (v := 2) (mx_da t_X4_takeHeading 38 rfl) rfl rfl ?_
          refine mx_callV yX4_refuse m_X4_refuse [.int 2] mm_X4_refuse ml_RX4_73 im_X4_refuse se_X4_refuse (tp_s T 2 rfl) rfl rfl (Nat.le_of_ble_eq_true rfl) (mx_da t_X4_takeHeading 39 rfl) rfl (Nat.le_of_ble_eq_true rfl) rfl ?_
          refine mx_mono h ?_
          intro o M7 ho
          obtain ⟨e1, e2, ho⟩ := ho
          obtain ⟨x8, rfl, h⟩ := ho
          refine ⟨e1, ?_⟩
          have T := tp_of e1 e2 T
          have hu0 := (congrFun (congrFun e2 2) 2).trans hu0
          clear e1 e2
          show mx_W m_X4_takeHeading (d + 1) 83 [.ref 2, .int v1] [.int (mx_b x8)] M7 Q
          refine mx_if_eq 90 (mx_da t_X4_takeHeading 40 rfl) rfl rfl (fun g9 => ?_) (fun g9 => ?_)
          · have h := h.1 (mx_b0.mp g9)
            refine mx_iconst (v := 0) (mx_da t_X4_takeHeading 43 rfl) rfl rfl ?_
            exact mx_zret rfl rfl (mx_da t_X4_takeHeading 44 rfl) h
          · have h := h.2 (mx_bn.mp g9)
            refine mx_iconst (v := 1) (mx_da t_X4_takeHeading 41 rfl) rfl rfl ?_
            refine mx_goto (n := 91) (mx_da t_X4_takeHeading 42 rfl) rfl ?_
            exact mx_zret rfl rfl (mx_da t_X4_takeHeading 44 rfl) h
      · have h := h.2 g9
        refine mx_aload_n 0 (mx_da t_X4_takeHeading 12 rfl) rfl rfl rfl rfl ?_
        refine mx_bipush (v := 8) (mx_da t_X4_takeHeading 13 rfl) rfl rfl ?_
        refine mx_callV yX4_isWordUpTo m_X4_isWordUpTo [.int 8] mm_X4_isWordUpTo ml_RX4_136 im_X4_isWordUpTo se_X4_isWordUpTo (tp_s T 2 rfl) rfl rfl (Nat.le_of_ble_eq_true rfl) (mx_da t_X4_takeHeading 14 rfl) rfl (Nat.le_of_ble_eq_true rfl) rfl ?_
        refine mx_mono h ?_
        intro o M9 ho
        obtain ⟨e1, e2, ho⟩ := ho
        obtain ⟨x10, rfl, h⟩ := ho
        refine ⟨e1, ?_⟩
        have T := tp_of e1 e2 T
        have hu0 := (congrFun (congrFun e2 2) 2).trans hu0
        clear e1 e2
        show mx_W m_X4_takeHeading (d + 1) 28 [.ref 2, .int v1] [.int (mx_b x10)] M9 Q
        refine mx_if_ne 33 (mx_da t_X4_takeHeading 15 rfl) rfl rfl (fun g9 => ?_) (fun g9 => ?_)
        · have h := h.1 (mx_bn.mp g9)
          refine mx_aload_n 0 (mx_da t_X4_takeHeading 18 rfl) rfl rfl rfl rfl ?_
          refine mx_getR u fs_RX4_28 rfl (tp_s T 2 rfl) hu0 (mx_da t_X4_takeHeading 19 rfl) rfl ?_
          refine mx_aload_n 0 (mx_da t_X4_takeHeading 20 rfl) rfl rfl rfl rfl ?_
          refine mx_getR 3 fs_RX4_12 rfl (tp_s T 2 rfl) (tp_r T 2 rfl) (mx_da t_X4_takeHeading 21 rfl) rfl ?_
          refine mx_getJ fs_RX4_139 rfl (tp_s T 3 rfl) (mx_da t_X4_takeHeading 22 rfl) rfl ?_
          refine mx_aload_n 0 (mx_da t_X4_takeHeading 23 rfl) rfl rfl rfl rfl ?_
          refine mx_getR 3 fs_RX4_12 rfl (tp_s T 2 rfl) (tp_r T 2 rfl) (mx_da t_X4_takeHeading 24 rfl) rfl ?_
          refine mx_getI fs_RX4_126 rfl (tp_s T 3 rfl) (mx_da t_X4_takeHeading 25 rfl) rfl ?_
          refine mx_callV yX1_addWord m_X1_addWord [.long (mx_J M9 3 6), .int (mx_I M9 3 3)] mm_X1_addWord ml_RX4_143 im_X1_addWord se_X1_addWord (cat_s T hu) rfl rfl (Nat.le_of_ble_eq_true rfl) (mx_da t_X4_takeHeading 26 rfl) rfl (Nat.le_of_ble_eq_true rfl) rfl ?_
          refine mx_mono h ?_
          intro o M11 ho
          obtain ⟨e1, e2, ho⟩ := ho
          obtain ⟨rfl, h⟩ := ho
          refine ⟨e1, ?_⟩
          have T := tp_of e1 e2 T
          have hu0 := (congrFun (congrFun e2 2) 2).trans hu0
          clear e1 e2
          show mx_W m_X4_takeHeading (d + 1) 54 [.ref 2, .int v1] [] M11 Q
          refine mx_aload_n 0 (mx_da t_X4_takeHeading 27 rfl) rfl rfl rfl rfl ?_
          refine mx_getR 3 fs_RX4_12 rfl (tp_s T 2 rfl) (tp_r T 2 rfl) (mx_da t_X4_takeHeading 28 rfl) rfl ?_
          refine mx_callV yX8_step m_X8_step [] mm_X8_step ml_RX4_70 im_X8_step se_X8_step (tp_s T 3 rfl) rfl rfl (Nat.le_of_ble_eq_true rfl) (mx_da t_X4_takeHeading 29 rfl) rfl (Nat.le_of_ble_eq_true rfl) rfl ?_
          refine mx_mono h ?_
          intro o M12 ho
          obtain ⟨e1, e2, ho⟩ := ho
          obtain ⟨rfl, h⟩ := ho
          refine ⟨e1, ?_⟩
          have T := tp_of e1 e2 T
          have hu0 := (congrFun (congrFun e2 2) 2).trans hu0
          clear e1 e2
          show mx_W m_X4_takeHeading (d + 1) 61 [.ref 2, .int v1] [] M12 Q
          refine mx_iinc 1 (v := v1 + 1) [.ref 2, .int (v1 + 1)] (mx_da t_X4_takeHeading 30 rfl) rfl (by decide) rfl rfl rfl ?_
          refine mx_goto (n := 2) (mx_da t_X4_takeHeading 31 rfl) rfl ?_
          exact h
        · have h := h.2 (mx_b0.mp g9)
          refine mx_iconst (v := 0) (mx_da t_X4_takeHeading 16 rfl) rfl rfl ?_
          exact mx_zret rfl rfl (mx_da t_X4_takeHeading 17 rfl) h
set_option maxHeartbeats 1000000 in
theorem x_X4_isWordUpTo_0 {d : Nat} {M : mx_M} {Q : mx_O → mx_M → Prop} (T : mx_Tp M) (u : Nat) (hu : mx_Cat u) (hu0 : mx_R M 2 2 = u) (v1 : Int32)
    (h : (((mx_I M 3 4) = (1 : Int32) → (((mx_I M 3 3) ≤ v1 → Q (.inl (some (.int (mx_b true)))) M) ∧ (¬ (mx_I M 3 3) ≤ v1 → (mx_W m_X4_refuse d 0 [.ref 2, .int 2] [] M (fun o M1 => mx_sh M1 = mx_sh M ∧ mx_R M1 = mx_R M ∧ (∃ x2 : Bool, o = .inl (some (.int (mx_b x2))) ∧ ((x2 = false → Q (.inl (some (.int (mx_b false)))) M1) ∧ (x2 = true → Q (.inl (some (.int (mx_b true)))) M1)))))))) ∧ (¬ (mx_I M 3 4) = (1 : Int32) → (mx_W m_X4_refuse d 0 [.ref 2, .int 1] [] M (fun o M3 => mx_sh M3 = mx_sh M ∧ mx_R M3 = mx_R M ∧ (∃ x4 : Bool, o = .inl (some (.int (mx_b x4))) ∧ Q (.inl (some (.int (mx_b x4)))) M3)))))) :
    mx_W m_X4_isWordUpTo (d + 1) 0 [.ref 2, .int v1] [] M Q := by
  refine mx_aload_n 0 (mx_da t_X4_isWordUpTo 0 rfl) rfl rfl rfl rfl ?_
  refine mx_getR 3 fs_RX4_12 rfl (tp_s T 2 rfl) (tp_r T 2 rfl) (mx_da t_X4_isWordUpTo 1 rfl) rfl ?_
  refine mx_getI fs_RX4_49 rfl (tp_s T 3 rfl) (mx_da t_X4_isWordUpTo 2 rfl) rfl ?_
  refine mx_iconst (v := 1) (mx_da t_X4_isWordUpTo 3 rfl) rfl rfl ?_
  refine mx_icmp_eq 17 (mx_da t_X4_isWordUpTo 4 rfl) rfl rfl (fun g9 => ?_) (fun g9 => ?_)
  · have h := h.1 g9
    refine mx_aload_n 0 (mx_da t_X4_isWordUpTo 9 rfl) rfl rfl rfl rfl ?_
    refine mx_getR 3 fs_RX4_12 rfl (tp_s T 2 rfl) (tp_r T 2 rfl) (mx_da t_X4_isWordUpTo 10 rfl) rfl ?_
    refine mx_getI fs_RX4_126 rfl (tp_s T 3 rfl) (mx_da t_X4_isWordUpTo 11 rfl) rfl ?_
    refine mx_iload_n 1 (mx_da t_X4_isWordUpTo 12 rfl) rfl rfl rfl ?_
    refine mx_icmp_le 36 (mx_da t_X4_isWordUpTo 13 rfl) rfl rfl (fun g9 => ?_) (fun g9 => ?_)
    · have h := h.1 g9
      refine mx_iconst (v := 1) (mx_da t_X4_isWordUpTo 18 rfl) rfl rfl ?_
      refine mx_goto (n := 41) (mx_da t_X4_isWordUpTo 19 rfl) rfl ?_
      exact mx_zret rfl rfl (mx_da t_X4_isWordUpTo 21 rfl) h
    · have h := h.2 g9
      refine mx_aload_n 0 (mx_da t_X4_isWordUpTo 14 rfl) rfl rfl rfl rfl ?_
      refine mx_iconst (v := 2) (mx_da t_X4_isWordUpTo 15 rfl) rfl rfl ?_
      refine mx_callV yX4_refuse m_X4_refuse [.int 2] mm_X4_refuse ml_RX4_73 im_X4_refuse se_X4_refuse (tp_s T 2 rfl) rfl rfl (Nat.le_of_ble_eq_true rfl) (mx_da t_X4_isWordUpTo 16 rfl) rfl (Nat.le_of_ble_eq_true rfl) rfl ?_
      refine mx_mono h ?_
      intro o M1 ho
      obtain ⟨e1, e2, ho⟩ := ho
      obtain ⟨x2, rfl, h⟩ := ho
      refine ⟨e1, ?_⟩
      have T := tp_of e1 e2 T
      have hu0 := (congrFun (congrFun e2 2) 2).trans hu0
      clear e1 e2
      show mx_W m_X4_isWordUpTo (d + 1) 33 [.ref 2, .int v1] [.int (mx_b x2)] M1 Q
      refine mx_if_eq 40 (mx_da t_X4_isWordUpTo 17 rfl) rfl rfl (fun g9 => ?_) (fun g9 => ?_)
      · have h := h.1 (mx_b0.mp g9)
        refine mx_iconst (v := 0) (mx_da t_X4_isWordUpTo 20 rfl) rfl rfl ?_
        exact mx_zret rfl rfl (mx_da t_X4_isWordUpTo 21 rfl) h
      · have h := h.2 (mx_bn.mp g9)
        refine mx_iconst (v := 1) (mx_da t_X4_isWordUpTo 18 rfl) rfl rfl ?_
        refine mx_goto (n := 41) (mx_da t_X4_isWordUpTo 19 rfl) rfl ?_
        exact mx_zret rfl rfl (mx_da t_X4_isWordUpTo 21 rfl) h
  · have h := h.2 g9
    refine mx_aload_n 0 (mx_da t_X4_isWordUpTo 5 rfl) rfl rfl rfl rfl ?_
    refine mx_iconst (v := 1) (mx_da t_X4_isWordUpTo 6 rfl) rfl rfl ?_
    refine mx_callV yX4_refuse m_X4_refuse [.int 1] mm_X4_refuse ml_RX4_73 im_X4_refuse se_X4_refuse (tp_s T 2 rfl) rfl rfl (Nat.le_of_ble_eq_true rfl) (mx_da t_X4_isWordUpTo 7 rfl) rfl (Nat.le_of_ble_eq_true rfl) rfl ?_
    refine mx_mono h ?_
    intro o M3 ho
    obtain ⟨e1, e2, ho⟩ := ho
    obtain ⟨x4, rfl, h⟩ := ho
    refine ⟨e1, ?_⟩
    have T := tp_of e1 e2 T
    have hu0 := (congrFun (congrFun e2 2) 2).trans hu0
    clear e1 e2
    show mx_W m_X4_isWordUpTo (d + 1) 16 [.ref 2, .int v1] [.int (mx_b x4)] M3 Q
    exact mx_zret rfl (mx_bz _) (mx_da t_X4_isWordUpTo 8 rfl) h
set_option maxHeartbeats 1000000 in
theorem x_X4_takeClerk_0 {d : Nat} {M : mx_M} {Q : mx_O → mx_M → Prop} (T : mx_Tp M) (u : Nat) (hu : mx_Cat u) (hu0 : mx_R M 2 2 = u)
    (h : ((¬ (mx_I M u 13) = (4 : Int32) → (mx_W m_X1_addClerk d 0 [.ref u] [] M (fun o M1 => mx_sh M1 = mx_sh M ∧ mx_R M1 = mx_R M ∧ (o = .inl none ∧ (mx_W m_X8_step d 0 [.ref 3, .retAddr 0] [] M1 (fun o M2 => mx_sh M2 = mx_sh M1 ∧ mx_R M2 = mx_R M1 ∧ (o = .inl none ∧ Q (.inl (some (.int (mx_b true)))) M2))))))) ∧ ((mx_I M u 13) = (4 : Int32) → (mx_W m_X4_refuse d 0 [.ref 2, .int 2] [] M (fun o M3 => mx_sh M3 = mx_sh M ∧ mx_R M3 = mx_R M ∧ (∃ x4 : Bool, o = .inl (some (.int (mx_b x4))) ∧ Q (.inl (some (.int (mx_b x4)))) M3)))))) :
    mx_W m_X4_takeClerk (d + 1) 0 [.ref 2] [] M Q := by
  refine mx_aload_n 0 (mx_da t_X4_takeClerk 0 rfl) rfl rfl rfl rfl ?_
  refine mx_getR u fs_RX4_28 rfl (tp_s T 2 rfl) hu0 (mx_da t_X4_takeClerk 1 rfl) rfl ?_
  refine mx_getI fs_RX4_91 rfl (cat_s T hu) (mx_da t_X4_takeClerk 2 rfl) rfl ?_
  refine mx_iconst (v := 4) (mx_da t_X4_takeClerk 3 rfl) rfl rfl ?_
  refine mx_icmp_ne 17 (mx_da t_X4_takeClerk 4 rfl) rfl rfl (fun g9 => ?_) (fun g9 => ?_)
  · have h := h.1 g9
    refine mx_aload_n 0 (mx_da t_X4_takeClerk 9 rfl) rfl rfl rfl rfl ?_
    refine mx_getR u fs_RX4_28 rfl (tp_s T 2 rfl) hu0 (mx_da t_X4_takeClerk 10 rfl) rfl ?_
    refine mx_callV yX1_addClerk m_X1_addClerk [] mm_X1_addClerk ml_RX4_147 im_X1_addClerk se_X1_addClerk (cat_s T hu) rfl rfl (Nat.le_of_ble_eq_true rfl) (mx_da t_X4_takeClerk 11 rfl) rfl (Nat.le_of_ble_eq_true rfl) rfl ?_
    refine mx_mono h ?_
    intro o M1 ho
    obtain ⟨e1, e2, ho⟩ := ho
    obtain ⟨rfl, h⟩ := ho
    refine ⟨e1, ?_⟩
    have T := tp_of e1 e2 T
    have hu0 := (congrFun (congrFun e2 2) 2).trans hu0
    clear e1 e2
    show mx_W m_X4_takeClerk (d + 1) 24 [.ref 2] [] M1 Q
    refine mx_aload_n 0 (mx_da t_X4_takeClerk 12 rfl) rfl rfl rfl rfl ?_
    refine mx_getR 3 fs_RX4_12 rfl (tp_s T 2 rfl) (tp_r T 2 rfl) (mx_da t_X4_takeClerk 13 rfl) rfl ?_
    refine mx_callV yX8_step m_X8_step [] mm_X8_step ml_RX4_70 im_X8_step se_X8_step (tp_s T 3 rfl) rfl rfl (Nat.le_of_ble_eq_true rfl) (mx_da t_X4_takeClerk 14 rfl) rfl (Nat.le_of_ble_eq_true rfl) rfl ?_
    refine mx_mono h ?_
    intro o M2 ho
    obtain ⟨e1, e2, ho⟩ := ho
    obtain ⟨rfl, h⟩ := ho
    refine ⟨e1, ?_⟩
    have T := tp_of e1 e2 T
    have hu0 := (congrFun (congrFun e2 2) 2).trans hu0
    clear e1 e2
    show mx_W m_X4_takeClerk (d + 1) 31 [.ref 2] [] M2 Q
    refine mx_iconst (v := 1) (mx_da t_X4_takeClerk 15 rfl) rfl rfl ?_
    exact mx_zret rfl rfl (mx_da t_X4_takeClerk 16 rfl) h
  · have h := h.2 g9
    refine mx_aload_n 0 (mx_da t_X4_takeClerk 5 rfl) rfl rfl rfl rfl ?_
    refine mx_iconst (v := 2) (mx_da t_X4_takeClerk 6 rfl) rfl rfl ?_
    refine mx_callV yX4_refuse m_X4_refuse [.int 2] mm_X4_refuse ml_RX4_73 im_X4_refuse se_X4_refuse (tp_s T 2 rfl) rfl rfl (Nat.le_of_ble_eq_true rfl) (mx_da t_X4_takeClerk 7 rfl) rfl (Nat.le_of_ble_eq_true rfl) rfl ?_
    refine mx_mono h ?_
    intro o M3 ho
    obtain ⟨e1, e2, ho⟩ := ho
    obtain ⟨x4, rfl, h⟩ := ho
    refine ⟨e1, ?_⟩
    have T := tp_of e1 e2 T
    have hu0 := (congrFun (congrFun e2 2) 2).trans hu0
    clear e1 e2
    show mx_W m_X4_takeClerk (d + 1) 16 [.ref 2] [.int (mx_b x4)] M3 Q
    exact mx_zret rfl (mx_bz _) (mx_da t_X4_takeClerk 8 rfl) h
set_option maxHeartbeats 1000000 in
theorem x_X4_takeRule_0 {d : Nat} {M : mx_M} {Q : mx_O → mx_M → Prop} (T : mx_Tp M) (u : Nat) (hu : mx_Cat u) (hu0 : mx_R M 2 2 = u)
    (h : ((((mx_I M u 13) - 1) < 0 → (mx_W m_X4_refuse d 0 [.ref 2, .int 2] [] M (fun o M1 => mx_sh M1 = mx_sh M ∧ mx_R M1 = mx_R M ∧ (∃ x2 : Bool, o = .inl (some (.int (mx_b x2))) ∧ Q (.inl (some (.int (mx_b x2)))) M1)))) ∧ (¬ ((mx_I M u 13) - 1) < 0 → (vp_in ((mx_I M u 13) - 1) 4 ∧ (((mx_I M (u + 5) ((mx_I M u 13) - 1).toNatClampNeg) < (8 : Int32) → (mx_W m_X4_ruleKindHere d 0 [.ref 2] [] M (fun o M3 => mx_sh M3 = mx_sh M ∧ mx_R M3 = mx_R M ∧ (∃ x4 : Int32, o = .inl (some (.int x4)) ∧ ((¬ x4 = (2 : Int32) → (mx_W m_X8_step d 0 [.ref 3, .retAddr 0] [] M3 (fun o M5 => mx_sh M5 = mx_sh M3 ∧ mx_R M5 = mx_R M3 ∧ (o = .inl none ∧ (mx_W m_X4_isWordUpTo d 0 [.ref 2, .int 8] [] M5 (fun o M6 => mx_sh M6 = mx_sh M5 ∧ mx_R M6 = mx_R M5 ∧ (∃ x7 : Bool, o = .inl (some (.int (mx_b x7))) ∧ ((x7 = true → (mx_W m_X1_ruleOf d 0 [.ref u, .int ((mx_I M u 13) - 1), .int x4, .long (mx_J M6 3 6), .retAddr 0, .retAddr 0, .retAddr 0] [] M6 (fun o M8 => mx_sh M8 = mx_sh M6 ∧ mx_R M8 = mx_R M6 ∧ (∃ x9 : Int32, o = .inl (some (.int x9)) ∧ ((x9 = (-1 : Int32) → (mx_W m_X8_step d 0 [.ref 3, .retAddr 0] [] M8 (fun o M10 => mx_sh M10 = mx_sh M8 ∧ mx_R M10 = mx_R M8 ∧ (o = .inl none ∧ ((¬ x4 = 0 → (mx_W m_X4_isWordUpTo d 0 [.ref 2, .int 8] [] M10 (fun o M11 => mx_sh M11 = mx_sh M10 ∧ mx_R M11 = mx_R M10 ∧ (∃ x12 : Bool, o = .inl (some (.int (mx_b x12))) ∧ ((x12 = true → (mx_W m_X1_addRule d 0 [.ref u, .int x4, .long (mx_J M6 3 6), .retAddr 0, .long (mx_J M11 3 6), .retAddr 0, .retAddr 0, .retAddr 0] [] M11 (fun o M13 => mx_sh M13 = mx_sh M11 ∧ mx_R M13 = mx_R M11 ∧ (o = .inl none ∧ (mx_W m_X8_step d 0 [.ref 3, .retAddr 0] [] M13 (fun o M14 => mx_sh M14 = mx_sh M13 ∧ mx_R M14 = mx_R M13 ∧ (o = .inl none ∧ Q (.inl (some (.int (mx_b true)))) M14))))))) ∧ (x12 = false → Q (.inl (some (.int (mx_b false)))) M11)))))) ∧ (x4 = 0 → (mx_W m_X1_addRule d 0 [.ref u, .int x4, .long (mx_J M6 3 6), .retAddr 0, .long (mx_J M6 3 6), .retAddr 0, .retAddr 0, .retAddr 0] [] M10 (fun o M15 => mx_sh M15 = mx_sh M10 ∧ mx_R M15 = mx_R M10 ∧ (o = .inl none ∧ Q (.inl (some (.int (mx_b true)))) M15))))))))) ∧ (¬ x9 = (-1 : Int32) → (mx_W m_X4_refuse d 0 [.ref 2, .int 4] [] M8 (fun o M16 => mx_sh M16 = mx_sh M8 ∧ mx_R M16 = mx_R M8 ∧ (∃ x17 : Bool, o = .inl (some (.int (mx_b x17))) ∧ Q (.inl (some (.int (mx_b x17)))) M16))))))))) ∧ (x7 = false → Q (.inl (some (.int (mx_b false)))) M6))))))))) ∧ (x4 = (2 : Int32) → (mx_W m_X8_step d 0 [.ref 3, .retAddr 0] [] M3 (fun o M18 => mx_sh M18 = mx_sh M3 ∧ mx_R M18 = mx_R M3 ∧ (o = .inl none ∧ (mx_W m_X4_isWordUpTo d 0 [.ref 2, .int 1] [] M18 (fun o M19 => mx_sh M19 = mx_sh M18 ∧ mx_R M19 = mx_R M18 ∧ (∃ x20 : Bool, o = .inl (some (.int (mx_b x20))) ∧ ((x20 = true → (mx_W m_X1_ruleOf d 0 [.ref u, .int ((mx_I M u 13) - 1), .int x4, .long (mx_J M19 3 6), .retAddr 0, .retAddr 0, .retAddr 0] [] M19 (fun o M21 => mx_sh M21 = mx_sh M19 ∧ mx_R M21 = mx_R M19 ∧ (∃ x22 : Int32, o = .inl (some (.int x22)) ∧ ((x22 = (-1 : Int32) → (mx_W m_X8_step d 0 [.ref 3, .retAddr 0] [] M21 (fun o M23 => mx_sh M23 = mx_sh M21 ∧ mx_R M23 = mx_R M21 ∧ (o = .inl none ∧ ((¬ x4 = 0 → (mx_W m_X4_isWordUpTo d 0 [.ref 2, .int 1] [] M23 (fun o M24 => mx_sh M24 = mx_sh M23 ∧ mx_R M24 = mx_R M23 ∧ (∃ x25 : Bool, o = .inl (some (.int (mx_b x25))) ∧ ((x25 = true → (mx_W m_X1_addRule d 0 [.ref u, .int x4, .long (mx_J M19 3 6), .retAddr 0, .long (mx_J M24 3 6), .retAddr 0, .retAddr 0, .retAddr 0] [] M24 (fun o M26 => mx_sh M26 = mx_sh M24 ∧ mx_R M26 = mx_R M24 ∧ (o = .inl none ∧ (mx_W m_X8_step d 0 [.ref 3, .retAddr 0] [] M26 (fun o M27 => mx_sh M27 = mx_sh M26 ∧ mx_R M27 = mx_R M26 ∧ (o = .inl none ∧ Q (.inl (some (.int (mx_b true)))) M27))))))) ∧ (x25 = false → Q (.inl (some (.int (mx_b false)))) M24)))))) ∧ (x4 = 0 → (mx_W m_X1_addRule d 0 [.ref u, .int x4, .long (mx_J M19 3 6), .retAddr 0, .long (mx_J M19 3 6), .retAddr 0, .retAddr 0, .retAddr 0] [] M23 (fun o M28 => mx_sh M28 = mx_sh M23 ∧ mx_R M28 = mx_R M23 ∧ (o = .inl none ∧ Q (.inl (some (.int (mx_b true)))) M28))))))))) ∧ (¬ x22 = (-1 : Int32) → (mx_W m_X4_refuse d 0 [.ref 2, .int 4] [] M21 (fun o M29 => mx_sh M29 = mx_sh M21 ∧ mx_R M29 = mx_R M21 ∧ (∃ x30 : Bool, o = .inl (some (.int (mx_b x30))) ∧ Q (.inl (some (.int (mx_b x30)))) M29))))))))) ∧ (x20 = false → Q (.inl (some (.int (mx_b false)))) M19)))))))))))))) ∧ (¬ (mx_I M (u + 5) ((mx_I M u 13) - 1).toNatClampNeg) < (8 : Int32) → (mx_W m_X4_refuse d 0 [.ref 2, .int 2] [] M (fun o M31 => mx_sh M31 = mx_sh M ∧ mx_R M31 = mx_R M ∧ (∃ x32 : Bool, o = .inl (some (.int (mx_b x32))) ∧ Q (.inl (some (.int (mx_b x32)))) M31))))))))) :
    mx_W m_X4_takeRule (d + 1) 0 [.ref 2, .retAddr 0, .retAddr 0, .retAddr 0, .retAddr 0, .retAddr 0] [] M Q := by
  refine mx_aload_n 0 (mx_da t_X4_takeRule 0 rfl) rfl rfl rfl rfl ?_
  refine mx_getR u fs_RX4_28 rfl (tp_s T 2 rfl) hu0 (mx_da t_X4_takeRule 1 rfl) rfl ?_
  refine mx_getI fs_RX4_91 rfl (cat_s T hu) (mx_da t_X4_takeRule 2 rfl) rfl ?_
  refine mx_iconst (v := 1) (mx_da t_X4_takeRule 3 rfl) rfl rfl ?_
  refine mx_isub (mx_da t_X4_takeRule 4 rfl) rfl ?_
  refine mx_istore_n 1 [.ref 2, .int ((mx_I M u 13) - 1), .retAddr 0, .retAddr 0, .retAddr 0, .retAddr 0] (mx_da t_X4_takeRule 5 rfl) rfl rfl (by decide) rfl ?_
  refine mx_iload_n 1 (mx_da t_X4_takeRule 6 rfl) rfl rfl rfl ?_
  refine mx_if_lt 28 (mx_da t_X4_takeRule 7 rfl) rfl rfl (fun g9 => ?_) (fun g9 => ?_)
  · have h := h.1 g9
    refine mx_aload_n 0 (mx_da t_X4_takeRule 15 rfl) rfl rfl rfl rfl ?_
    refine mx_iconst (v := 2) (mx_da t_X4_takeRule 16 rfl) rfl rfl ?_
    refine mx_callV yX4_refuse m_X4_refuse [.int 2] mm_X4_refuse ml_RX4_73 im_X4_refuse se_X4_refuse (tp_s T 2 rfl) rfl rfl (Nat.le_of_ble_eq_true rfl) (mx_da t_X4_takeRule 17 rfl) rfl (Nat.le_of_ble_eq_true rfl) rfl ?_
    refine mx_mono h ?_
    intro o M1 ho
    obtain ⟨e1, e2, ho⟩ := ho
    obtain ⟨x2, rfl, h⟩ := ho
    refine ⟨e1, ?_⟩
    have T := tp_of e1 e2 T
    have hu0 := (congrFun (congrFun e2 2) 2).trans hu0
    clear e1 e2
    show mx_W m_X4_takeRule (d + 1) 33 [.ref 2, .int ((mx_I M u 13) - 1), .retAddr 0, .retAddr 0, .retAddr 0, .retAddr 0] [.int (mx_b x2)] M1 Q
    exact mx_zret rfl (mx_bz _) (mx_da t_X4_takeRule 18 rfl) h
  · have h := h.2 g9
    refine mx_aload_n 0 (mx_da t_X4_takeRule 8 rfl) rfl rfl rfl rfl ?_
    refine mx_getR u fs_RX4_28 rfl (tp_s T 2 rfl) hu0 (mx_da t_X4_takeRule 9 rfl) rfl ?_
    refine mx_getR (u + 5) fs_RX4_150 rfl (cat_s T hu) (cat_r4 T hu) (mx_da t_X4_takeRule 10 rfl) rfl ?_
    refine mx_iload_n 1 (mx_da t_X4_takeRule 11 rfl) rfl rfl rfl ?_
    refine mx_iald (cat_a4 T hu) h.1 (mx_da t_X4_takeRule 12 rfl) rfl ?_
    have h := h.2
    refine mx_bipush (v := 8) (mx_da t_X4_takeRule 13 rfl) rfl rfl ?_
    refine mx_icmp_lt 34 (mx_da t_X4_takeRule 14 rfl) rfl rfl (fun g9 => ?_) (fun g9 => ?_)
    · have h := h.1 g9
      refine mx_aload_n 0 (mx_da t_X4_takeRule 19 rfl) rfl rfl rfl rfl ?_
      refine mx_callV yX4_ruleKindHere m_X4_ruleKindHere [] mm_X4_ruleKindHere ml_RX4_154 im_X4_ruleKindHere se_X4_ruleKindHere (tp_s T 2 rfl) rfl rfl (Nat.le_of_ble_eq_true rfl) (mx_da t_X4_takeRule 20 rfl) rfl (Nat.le_of_ble_eq_true rfl) rfl ?_
      refine mx_mono h ?_
      intro o M3 ho
      obtain ⟨e1, e2, ho⟩ := ho
      obtain ⟨x4, rfl, h⟩ := ho
      refine ⟨e1, ?_⟩
      have T := tp_of e1 e2 T
      have hu0 := (congrFun (congrFun e2 2) 2).trans hu0
      clear e1 e2
      show mx_W m_X4_takeRule (d + 1) 38 [.ref 2, .int ((mx_I M u 13) - 1), .retAddr 0, .retAddr 0, .retAddr 0, .retAddr 0] [.int x4] M3 Q
      refine mx_istore_n 2 [.ref 2, .int ((mx_I M u 13) - 1), .int x4, .retAddr 0, .retAddr 0, .retAddr 0] (mx_da t_X4_takeRule 21 rfl) rfl rfl (by decide) rfl ?_
      refine mx_iload_n 2 (mx_da t_X4_takeRule 22 rfl) rfl rfl rfl ?_
      refine mx_iconst (v := 2) (mx_da t_X4_takeRule 23 rfl) rfl rfl ?_
      refine mx_icmp_ne 48 (mx_da t_X4_takeRule 24 rfl) rfl rfl (fun g9 => ?_) (fun g9 => ?_)
      · have h := h.1 g9
        refine mx_bipush (v := 8) (mx_da t_X4_takeRule 27 rfl) rfl rfl ?_
        refine mx_istore_n 3 [.ref 2, .int ((mx_I M u 13) - 1), .int x4, .int 8, .retAddr 0, .retAddr 0] (mx_da t_X4_takeRule 28 rfl) rfl rfl (by decide) rfl ?_
        refine mx_aload_n 0 (mx_da t_X4_takeRule 29 rfl) rfl rfl rfl rfl ?_
        refine mx_getR 3 fs_RX4_12 rfl (tp_s T 2 rfl) (tp_r T 2 rfl) (mx_da t_X4_takeRule 30 rfl) rfl ?_
        refine mx_callV yX8_step m_X8_step [] mm_X8_step ml_RX4_70 im_X8_step se_X8_step (tp_s T 3 rfl) rfl rfl (Nat.le_of_ble_eq_true rfl) (mx_da t_X4_takeRule 31 rfl) rfl (Nat.le_of_ble_eq_true rfl) rfl ?_
        refine mx_mono h ?_
        intro o M5 ho
        obtain ⟨e1, e2, ho⟩ := ho
        obtain ⟨rfl, h⟩ := ho
        refine ⟨e1, ?_⟩
        have T := tp_of e1 e2 T
        have hu0 := (congrFun (congrFun e2 2) 2).trans hu0
        clear e1 e2
        show mx_W m_X4_takeRule (d + 1) 58 [.ref 2, .int ((mx_I M u 13) - 1), .int x4, .int 8, .retAddr 0, .retAddr 0] [] M5 Q
        refine mx_aload_n 0 (mx_da t_X4_takeRule 32 rfl) rfl rfl rfl rfl ?_
        refine mx_iload_n 3 (mx_da t_X4_takeRule 33 rfl) rfl rfl rfl ?_
        refine mx_callV yX4_isWordUpTo m_X4_isWordUpTo [.int 8] mm_X4_isWordUpTo ml_RX4_136 im_X4_isWordUpTo se_X4_isWordUpTo (tp_s T 2 rfl) rfl rfl (Nat.le_of_ble_eq_true rfl) (mx_da t_X4_takeRule 34 rfl) rfl (Nat.le_of_ble_eq_true rfl) rfl ?_
        refine mx_mono h ?_
        intro o M6 ho
        obtain ⟨e1, e2, ho⟩ := ho
        obtain ⟨x7, rfl, h⟩ := ho
        refine ⟨e1, ?_⟩
        have T := tp_of e1 e2 T
        have hu0 := (congrFun (congrFun e2 2) 2).trans hu0
        clear e1 e2
        show mx_W m_X4_takeRule (d + 1) 63 [.ref 2, .int ((mx_I M u 13) - 1), .int x4, .int 8, .retAddr 0, .retAddr 0] [.int (mx_b x7)] M6 Q
        refine mx_if_ne 68 (mx_da t_X4_takeRule 35 rfl) rfl rfl (fun g9 => ?_) (fun g9 => ?_)
        · have h := h.1 (mx_bn.mp g9)
          refine mx_aload_n 0 (mx_da t_X4_takeRule 38 rfl) rfl rfl rfl rfl ?_
          refine mx_getR 3 fs_RX4_12 rfl (tp_s T 2 rfl) (tp_r T 2 rfl) (mx_da t_X4_takeRule 39 rfl) rfl ?_
          refine mx_getJ fs_RX4_139 rfl (tp_s T 3 rfl) (mx_da t_X4_takeRule 40 rfl) rfl ?_
          refine mx_lstore 4 [.ref 2, .int ((mx_I M u 13) - 1), .int x4, .int 8, .long (mx_J M6 3 6), .retAddr 0] (mx_da t_X4_takeRule 41 rfl) rfl (by decide) rfl ?_
          refine mx_aload_n 0 (mx_da t_X4_takeRule 42 rfl) rfl rfl rfl rfl ?_
          refine mx_getR u fs_RX4_28 rfl (tp_s T 2 rfl) hu0 (mx_da t_X4_takeRule 43 rfl) rfl ?_
          refine mx_iload_n 1 (mx_da t_X4_takeRule 44 rfl) rfl rfl rfl ?_
          refine mx_iload_n 2 (mx_da t_X4_takeRule 45 rfl) rfl rfl rfl ?_
          refine mx_lload 4 (mx_da t_X4_takeRule 46 rfl) rfl rfl ?_
          refine mx_callV yX1_ruleOf m_X1_ruleOf [.int ((mx_I M u 13) - 1), .int x4, .long (mx_J M6 3 6)] mm_X1_ruleOf ml_RX4_158 im_X1_ruleOf se_X1_ruleOf (cat_s T hu) rfl rfl (Nat.le_of_ble_eq_true rfl) (mx_da t_X4_takeRule 47 rfl) rfl (Nat.le_of_ble_eq_true rfl) rfl ?_
          refine mx_mono h ?_
          intro o M8 ho
          obtain ⟨e1, e2, ho⟩ := ho
          obtain ⟨x9, rfl, h⟩ := ho
          refine ⟨e1, ?_⟩
          have T := tp_of e1 e2 T
          have hu0 := (congrFun (congrFun e2 2) 2).trans hu0
          clear e1 e2
          show mx_W m_X4_takeRule (d + 1) 88 [.ref 2, .int ((mx_I M u 13) - 1), .int x4, .int 8, .long (mx_J M6 3 6), .retAddr 0] [.int x9] M8 Q
          refine mx_iconst (v := (-1)) (mx_da t_X4_takeRule 48 rfl) rfl rfl ?_
          refine mx_icmp_eq 98 (mx_da t_X4_takeRule 49 rfl) rfl rfl (fun g9 => ?_) (fun g9 => ?_)
          · have h := h.1 g9
            refine mx_aload_n 0 (mx_da t_X4_takeRule 54 rfl) rfl rfl rfl rfl ?_
            refine mx_getR 3 fs_RX4_12 rfl (tp_s T 2 rfl) (tp_r T 2 rfl) (mx_da t_X4_takeRule 55 rfl) rfl ?_
            refine mx_callV yX8_step m_X8_step [] mm_X8_step ml_RX4_70 im_X8_step se_X8_step (tp_s T 3 rfl) rfl rfl (Nat.le_of_ble_eq_true rfl) (mx_da t_X4_takeRule 56 rfl) rfl (Nat.le_of_ble_eq_true rfl) rfl ?_
            refine mx_mono h ?_
            intro o M10 ho
            obtain ⟨e1, e2, ho⟩ := ho
            obtain ⟨rfl, h⟩ := ho
            refine ⟨e1, ?_⟩
            have T := tp_of e1 e2 T
            have hu0 := (congrFun (congrFun e2 2) 2).trans hu0
            clear e1 e2
            show mx_W m_X4_takeRule (d + 1) 105 [.ref 2, .int ((mx_I M u 13) - 1), .int x4, .int 8, .long (mx_J M6 3 6), .retAddr 0] [] M10 Q
            refine mx_iload_n 2 (mx_da t_X4_takeRule 57 rfl) rfl rfl rfl ?_
            refine mx_if_ne 123 (mx_da t_X4_takeRule 58 rfl) rfl rfl (fun g9 => ?_) (fun g9 => ?_)
            · have h := h.1 g9
              refine mx_aload_n 0 (mx_da t_X4_takeRule 67 rfl) rfl rfl rfl rfl ?_
              refine mx_iload_n 3 (mx_da t_X4_takeRule 68 rfl) rfl rfl rfl ?_
              refine mx_callV yX4_isWordUpTo m_X4_isWordUpTo [.int 8] mm_X4_isWordUpTo ml_RX4_136 im_X4_isWordUpTo se_X4_isWordUpTo (tp_s T 2 rfl) rfl rfl (Nat.le_of_ble_eq_true rfl) (mx_da t_X4_takeRule 69 rfl) rfl (Nat.le_of_ble_eq_true rfl) rfl ?_
              refine mx_mono h ?_
              intro o M11 ho
              obtain ⟨e1, e2, ho⟩ := ho
              obtain ⟨x12, rfl, h⟩ := ho
              refine ⟨e1, ?_⟩
              have T := tp_of e1 e2 T
              have hu0 := (congrFun (congrFun e2 2) 2).trans hu0
              clear e1 e2
              show mx_W m_X4_takeRule (d + 1) 128 [.ref 2, .int ((mx_I M u 13) - 1), .int x4, .int 8, .long (mx_J M6 3 6), .retAddr 0] [.int (mx_b x12)] M11 Q
              refine mx_if_ne 133 (mx_da t_X4_takeRule 70 rfl) rfl rfl (fun g9 => ?_) (fun g9 => ?_)
              · have h := h.1 (mx_bn.mp g9)
                refine mx_aload_n 0 (mx_da t_X4_takeRule 73 rfl) rfl rfl rfl rfl ?_
                refine mx_getR u fs_RX4_28 rfl (tp_s T 2 rfl) hu0 (mx_da t_X4_takeRule 74 rfl) rfl ?_
                refine mx_iload_n 2 (mx_da t_X4_takeRule 75 rfl) rfl rfl rfl ?_
                refine mx_lload 4 (mx_da t_X4_takeRule 76 rfl) rfl rfl ?_
                refine mx_aload_n 0 (mx_da t_X4_takeRule 77 rfl) rfl rfl rfl rfl ?_
                refine mx_getR 3 fs_RX4_12 rfl (tp_s T 2 rfl) (tp_r T 2 rfl) (mx_da t_X4_takeRule 78 rfl) rfl ?_
                refine mx_getJ fs_RX4_139 rfl (tp_s T 3 rfl) (mx_da t_X4_takeRule 79 rfl) rfl ?_
                refine mx_callV yX1_addRule m_X1_addRule [.int x4, .long (mx_J M6 3 6), .long (mx_J M11 3 6)] mm_X1_addRule ml_RX4_162 im_X1_addRule se_X1_addRule (cat_s T hu) rfl rfl (Nat.le_of_ble_eq_true rfl) (mx_da t_X4_takeRule 80 rfl) rfl (Nat.le_of_ble_eq_true rfl) rfl ?_
                refine mx_mono h ?_
                intro o M13 ho
                obtain ⟨e1, e2, ho⟩ := ho
                obtain ⟨rfl, h⟩ := ho
                refine ⟨e1, ?_⟩
                have T := tp_of e1 e2 T
                have hu0 := (congrFun (congrFun e2 2) 2).trans hu0
                clear e1 e2
                show mx_W m_X4_takeRule (d + 1) 150 [.ref 2, .int ((mx_I M u 13) - 1), .int x4, .int 8, .long (mx_J M6 3 6), .retAddr 0] [] M13 Q
                refine mx_aload_n 0 (mx_da t_X4_takeRule 81 rfl) rfl rfl rfl rfl ?_
                refine mx_getR 3 fs_RX4_12 rfl (tp_s T 2 rfl) (tp_r T 2 rfl) (mx_da t_X4_takeRule 82 rfl) rfl ?_
                refine mx_callV yX8_step m_X8_step [] mm_X8_step ml_RX4_70 im_X8_step se_X8_step (tp_s T 3 rfl) rfl rfl (Nat.le_of_ble_eq_true rfl) (mx_da t_X4_takeRule 83 rfl) rfl (Nat.le_of_ble_eq_true rfl) rfl ?_
                refine mx_mono h ?_
                intro o M14 ho
                obtain ⟨e1, e2, ho⟩ := ho
                obtain ⟨rfl, h⟩ := ho
                refine ⟨e1, ?_⟩
                have T := tp_of e1 e2 T
                have hu0 := (congrFun (congrFun e2 2) 2).trans hu0
                clear e1 e2
                show mx_W m_X4_takeRule (d + 1) 157 [.ref 2, .int ((mx_I M u 13) - 1), .int x4, .int 8, .long (mx_J M6 3 6), .retAddr 0] [] M14 Q
                refine mx_iconst (v := 1) (mx_da t_X4_takeRule 84 rfl) rfl rfl ?_
                exact mx_zret rfl rfl (mx_da t_X4_takeRule 85 rfl) h
              · have h := h.2 (mx_b0.mp g9)
                refine mx_iconst (v := 0) (mx_da t_X4_takeRule 71 rfl) rfl rfl ?_
                exact mx_zret rfl rfl (mx_da t_X4_takeRule 72 rfl) h
            · have h := h.2 g9
              refine mx_aload_n 0 (mx_da t_X4_takeRule 59 rfl) rfl rfl rfl rfl ?_
              refine mx_getR u fs_RX4_28 rfl (tp_s T 2 rfl) hu0 (mx_da t_X4_takeRule 60 rfl) rfl ?_
              refine mx_iload_n 2 (mx_da t_X4_takeRule 61 rfl) rfl rfl rfl ?_
              refine mx_lload 4 (mx_da t_X4_takeRule 62 rfl) rfl rfl ?_
              refine mx_lload 4 (mx_da t_X4_takeRule 63 rfl) rfl rfl ?_
              refine mx_callV yX1_addRule m_X1_addRule [.int x4, .long (mx_J M6 3 6), .long (mx_J M6 3 6)] mm_X1_addRule ml_RX4_162 im_X1_addRule se_X1_addRule (cat_s T hu) rfl rfl (Nat.le_of_ble_eq_true rfl) (mx_da t_X4_takeRule 64 rfl) rfl (Nat.le_of_ble_eq_true rfl) rfl ?_
              refine mx_mono h ?_
              intro o M15 ho
              obtain ⟨e1, e2, ho⟩ := ho
              obtain ⟨rfl, h⟩ := ho
              refine ⟨e1, ?_⟩
              have T := tp_of e1 e2 T
              have hu0 := (congrFun (congrFun e2 2) 2).trans hu0
              clear e1 e2
              show mx_W m_X4_takeRule (d + 1) 121 [.ref 2, .int ((mx_I M u 13) - 1), .int x4, .int 8, .long (mx_J M6 3 6), .retAddr 0] [] M15 Q
              refine mx_iconst (v := 1) (mx_da t_X4_takeRule 65 rfl) rfl rfl ?_
              exact mx_zret rfl rfl (mx_da t_X4_takeRule 66 rfl) h
          · have h := h.2 g9
            refine mx_aload_n 0 (mx_da t_X4_takeRule 50 rfl) rfl rfl rfl rfl ?_
            refine mx_iconst (v := 4) (mx_da t_X4_takeRule 51 rfl) rfl rfl ?_
            refine mx_callV yX4_refuse m_X4_refuse [.int 4] mm_X4_refuse ml_RX4_73 im_X4_refuse se_X4_refuse (tp_s T 2 rfl) rfl rfl (Nat.le_of_ble_eq_true rfl) (mx_da t_X4_takeRule 52 rfl) rfl (Nat.le_of_ble_eq_true rfl) rfl ?_
            refine mx_mono h ?_
            intro o M16 ho
            obtain ⟨e1, e2, ho⟩ := ho
            obtain ⟨x17, rfl, h⟩ := ho
            refine ⟨e1, ?_⟩
            have T := tp_of e1 e2 T
            have hu0 := (congrFun (congrFun e2 2) 2).trans hu0
            clear e1 e2
            show mx_W m_X4_takeRule (d + 1) 97 [.ref 2, .int ((mx_I M u 13) - 1), .int x4, .int 8, .long (mx_J M6 3 6), .retAddr 0] [.int (mx_b x17)] M16 Q
            exact mx_zret rfl (mx_bz _) (mx_da t_X4_takeRule 53 rfl) h
        · have h := h.2 (mx_b0.mp g9)
          refine mx_iconst (v := 0) (mx_da t_X4_takeRule 36 rfl) rfl rfl ?_
          exact mx_zret rfl rfl (mx_da t_X4_takeRule 37 rfl) h
      · have h := h.2 g9
        refine mx_iconst (v := 1) (mx_da t_X4_takeRule 25 rfl) rfl rfl ?_
        refine mx_goto (n := 50) (mx_da t_X4_takeRule 26 rfl) rfl ?_
        refine mx_istore_n 3 [.ref 2, .int ((mx_I M u 13) - 1), .int x4, .int 1, .retAddr 0, .retAddr 0] (mx_da t_X4_takeRule 28 rfl) rfl rfl (by decide) rfl ?_
        refine mx_aload_n 0 (mx_da t_X4_takeRule 29 rfl) rfl rfl rfl rfl ?_
        refine mx_getR 3 fs_RX4_12 rfl (tp_s T 2 rfl) (tp_r T 2 rfl) (mx_da t_X4_takeRule 30 rfl) rfl ?_
        refine mx_callV yX8_step m_X8_step [] mm_X8_step ml_RX4_70 im_X8_step se_X8_step (tp_s T 3 rfl) rfl rfl (Nat.le_of_ble_eq_true rfl) (mx_da t_X4_takeRule 31 rfl) rfl (Nat.le_of_ble_eq_true rfl) rfl ?_
        refine mx_mono h ?_
        intro o M18 ho
        obtain ⟨e1, e2, ho⟩ := ho
        obtain ⟨rfl, h⟩ := ho
        refine ⟨e1, ?_⟩
        have T := tp_of e1 e2 T
        have hu0 := (congrFun (congrFun e2 2) 2).trans hu0
        clear e1 e2
        show mx_W m_X4_takeRule (d + 1) 58 [.ref 2, .int ((mx_I M u 13) - 1), .int x4, .int 1, .retAddr 0, .retAddr 0] [] M18 Q
        refine mx_aload_n 0 (mx_da t_X4_takeRule 32 rfl) rfl rfl rfl rfl ?_
        refine mx_iload_n 3 (mx_da t_X4_takeRule 33 rfl) rfl rfl rfl ?_
        refine mx_callV yX4_isWordUpTo m_X4_isWordUpTo [.int 1] mm_X4_isWordUpTo ml_RX4_136 im_X4_isWordUpTo se_X4_isWordUpTo (tp_s T 2 rfl) rfl rfl (Nat.le_of_ble_eq_true rfl) (mx_da t_X4_takeRule 34 rfl) rfl (Nat.le_of_ble_eq_true rfl) rfl ?_
        refine mx_mono h ?_
        intro o M19 ho
        obtain ⟨e1, e2, ho⟩ := ho
        obtain ⟨x20, rfl, h⟩ := ho
        refine ⟨e1, ?_⟩
        have T := tp_of e1 e2 T
        have hu0 := (congrFun (congrFun e2 2) 2).trans hu0
        clear e1 e2
        show mx_W m_X4_takeRule (d + 1) 63 [.ref 2, .int ((mx_I M u 13) - 1), .int x4, .int 1, .retAddr 0, .retAddr 0] [.int (mx_b x20)] M19 Q
        refine mx_if_ne 68 (mx_da t_X4_takeRule 35 rfl) rfl rfl (fun g9 => ?_) (fun g9 => ?_)
        · have h := h.1 (mx_bn.mp g9)
          refine mx_aload_n 0 (mx_da t_X4_takeRule 38 rfl) rfl rfl rfl rfl ?_
          refine mx_getR 3 fs_RX4_12 rfl (tp_s T 2 rfl) (tp_r T 2 rfl) (mx_da t_X4_takeRule 39 rfl) rfl ?_
          refine mx_getJ fs_RX4_139 rfl (tp_s T 3 rfl) (mx_da t_X4_takeRule 40 rfl) rfl ?_
          refine mx_lstore 4 [.ref 2, .int ((mx_I M u 13) - 1), .int x4, .int 1, .long (mx_J M19 3 6), .retAddr 0] (mx_da t_X4_takeRule 41 rfl) rfl (by decide) rfl ?_
          refine mx_aload_n 0 (mx_da t_X4_takeRule 42 rfl) rfl rfl rfl rfl ?_
          refine mx_getR u fs_RX4_28 rfl (tp_s T 2 rfl) hu0 (mx_da t_X4_takeRule 43 rfl) rfl ?_
          refine mx_iload_n 1 (mx_da t_X4_takeRule 44 rfl) rfl rfl rfl ?_
          refine mx_iload_n 2 (mx_da t_X4_takeRule 45 rfl) rfl rfl rfl ?_
          refine mx_lload 4 (mx_da t_X4_takeRule 46 rfl) rfl rfl ?_
          refine mx_callV yX1_ruleOf m_X1_ruleOf [.int ((mx_I M u 13) - 1), .int x4, .long (mx_J M19 3 6)] mm_X1_ruleOf ml_RX4_158 im_X1_ruleOf se_X1_ruleOf (cat_s T hu) rfl rfl (Nat.le_of_ble_eq_true rfl) (mx_da t_X4_takeRule 47 rfl) rfl (Nat.le_of_ble_eq_true rfl) rfl ?_
          refine mx_mono h ?_
          intro o M21 ho
          obtain ⟨e1, e2, ho⟩ := ho
          obtain ⟨x22, rfl, h⟩ := ho
          refine ⟨e1, ?_⟩
          have T := tp_of e1 e2 T
          have hu0 := (congrFun (congrFun e2 2) 2).trans hu0
          clear e1 e2
          show mx_W m_X4_takeRule (d + 1) 88 [.ref 2, .int ((mx_I M u 13) - 1), .int x4, .int 1, .long (mx_J M19 3 6), .retAddr 0] [.int x22] M21 Q
          refine mx_iconst (v := (-1)) (mx_da t_X4_takeRule 48 rfl) rfl rfl ?_
          refine mx_icmp_eq 98 (mx_da t_X4_takeRule 49 rfl) rfl rfl (fun g9 => ?_) (fun g9 => ?_)
          · have h := h.1 g9
            refine mx_aload_n 0 (mx_da t_X4_takeRule 54 rfl) rfl rfl rfl rfl ?_
            refine mx_getR 3 fs_RX4_12 rfl (tp_s T 2 rfl) (tp_r T 2 rfl) (mx_da t_X4_takeRule 55 rfl) rfl ?_
            refine mx_callV yX8_step m_X8_step [] mm_X8_step ml_RX4_70 im_X8_step se_X8_step (tp_s T 3 rfl) rfl rfl (Nat.le_of_ble_eq_true rfl) (mx_da t_X4_takeRule 56 rfl) rfl (Nat.le_of_ble_eq_true rfl) rfl ?_
            refine mx_mono h ?_
            intro o M23 ho
            obtain ⟨e1, e2, ho⟩ := ho
            obtain ⟨rfl, h⟩ := ho
            refine ⟨e1, ?_⟩
            have T := tp_of e1 e2 T
            have hu0 := (congrFun (congrFun e2 2) 2).trans hu0
            clear e1 e2
            show mx_W m_X4_takeRule (d + 1) 105 [.ref 2, .int ((mx_I M u 13) - 1), .int x4, .int 1, .long (mx_J M19 3 6), .retAddr 0] [] M23 Q
            refine mx_iload_n 2 (mx_da t_X4_takeRule 57 rfl) rfl rfl rfl ?_
            refine mx_if_ne 123 (mx_da t_X4_takeRule 58 rfl) rfl rfl (fun g9 => ?_) (fun g9 => ?_)
            · have h := h.1 g9
              refine mx_aload_n 0 (mx_da t_X4_takeRule 67 rfl) rfl rfl rfl rfl ?_
              refine mx_iload_n 3 (mx_da t_X4_takeRule 68 rfl) rfl rfl rfl ?_
              refine mx_callV yX4_isWordUpTo m_X4_isWordUpTo [.int 1] mm_X4_isWordUpTo ml_RX4_136 im_X4_isWordUpTo se_X4_isWordUpTo (tp_s T 2 rfl) rfl rfl (Nat.le_of_ble_eq_true rfl) (mx_da t_X4_takeRule 69 rfl) rfl (Nat.le_of_ble_eq_true rfl) rfl ?_
              refine mx_mono h ?_
              intro o M24 ho
              obtain ⟨e1, e2, ho⟩ := ho
              obtain ⟨x25, rfl, h⟩ := ho
              refine ⟨e1, ?_⟩
              have T := tp_of e1 e2 T
              have hu0 := (congrFun (congrFun e2 2) 2).trans hu0
              clear e1 e2
              show mx_W m_X4_takeRule (d + 1) 128 [.ref 2, .int ((mx_I M u 13) - 1), .int x4, .int 1, .long (mx_J M19 3 6), .retAddr 0] [.int (mx_b x25)] M24 Q
              refine mx_if_ne 133 (mx_da t_X4_takeRule 70 rfl) rfl rfl (fun g9 => ?_) (fun g9 => ?_)
              · have h := h.1 (mx_bn.mp g9)
                refine mx_aload_n 0 (mx_da t_X4_takeRule 73 rfl) rfl rfl rfl rfl ?_
                refine mx_getR u fs_RX4_28 rfl (tp_s T 2 rfl) hu0 (mx_da t_X4_takeRule 74 rfl) rfl ?_
                refine mx_iload_n 2 (mx_da t_X4_takeRule 75 rfl) rfl rfl rfl ?_
                refine mx_lload 4 (mx_da t_X4_takeRule 76 rfl) rfl rfl ?_
                refine mx_aload_n 0 (mx_da t_X4_takeRule 77 rfl) rfl rfl rfl rfl ?_
                refine mx_getR 3 fs_RX4_12 rfl (tp_s T 2 rfl) (tp_r T 2 rfl) (mx_da t_X4_takeRule 78 rfl) rfl ?_
                refine mx_getJ fs_RX4_139 rfl (tp_s T 3 rfl) (mx_da t_X4_takeRule 79 rfl) rfl ?_
                refine mx_callV yX1_addRule m_X1_addRule [.int x4, .long (mx_J M19 3 6), .long (mx_J M24 3 6)] mm_X1_addRule ml_RX4_162 im_X1_addRule se_X1_addRule (cat_s T hu) rfl rfl (Nat.le_of_ble_eq_true rfl) (mx_da t_X4_takeRule 80 rfl) rfl (Nat.le_of_ble_eq_true rfl) rfl ?_
                refine mx_mono h ?_
                intro o M26 ho
                obtain ⟨e1, e2, ho⟩ := ho
                obtain ⟨rfl, h⟩ := ho
                refine ⟨e1, ?_⟩
                have T := tp_of e1 e2 T
                have hu0 := (congrFun (congrFun e2 2) 2).trans hu0
                clear e1 e2
                show mx_W m_X4_takeRule (d + 1) 150 [.ref 2, .int ((mx_I M u 13) - 1), .int x4, .int 1, .long (mx_J M19 3 6), .retAddr 0] [] M26 Q
                refine mx_aload_n 0 (mx_da t_X4_takeRule 81 rfl) rfl rfl rfl rfl ?_
                refine mx_getR 3 fs_RX4_12 rfl (tp_s T 2 rfl) (tp_r T 2 rfl) (mx_da t_X4_takeRule 82 rfl) rfl ?_
                refine mx_callV yX8_step m_X8_step [] mm_X8_step ml_RX4_70 im_X8_step se_X8_step (tp_s T 3 rfl) rfl rfl (Nat.le_of_ble_eq_true rfl) (mx_da t_X4_takeRule 83 rfl) rfl (Nat.le_of_ble_eq_true rfl) rfl ?_
                refine mx_mono h ?_
                intro o M27 ho
                obtain ⟨e1, e2, ho⟩ := ho
                obtain ⟨rfl, h⟩ := ho
                refine ⟨e1, ?_⟩
                have T := tp_of e1 e2 T
                have hu0 := (congrFun (congrFun e2 2) 2).trans hu0
                clear e1 e2
                show mx_W m_X4_takeRule (d + 1) 157 [.ref 2, .int ((mx_I M u 13) - 1), .int x4, .int 1, .long (mx_J M19 3 6), .retAddr 0] [] M27 Q
                refine mx_iconst (v := 1) (mx_da t_X4_takeRule 84 rfl) rfl rfl ?_
                exact mx_zret rfl rfl (mx_da t_X4_takeRule 85 rfl) h
              · have h := h.2 (mx_b0.mp g9)
                refine mx_iconst (v := 0) (mx_da t_X4_takeRule 71 rfl) rfl rfl ?_
                exact mx_zret rfl rfl (mx_da t_X4_takeRule 72 rfl) h
            · have h := h.2 g9
              refine mx_aload_n 0 (mx_da t_X4_takeRule 59 rfl) rfl rfl rfl rfl ?_
              refine mx_getR u fs_RX4_28 rfl (tp_s T 2 rfl) hu0 (mx_da t_X4_takeRule 60 rfl) rfl ?_
              refine mx_iload_n 2 (mx_da t_X4_takeRule 61 rfl) rfl rfl rfl ?_
              refine mx_lload 4 (mx_da t_X4_takeRule 62 rfl) rfl rfl ?_
              refine mx_lload 4 (mx_da t_X4_takeRule 63 rfl) rfl rfl ?_
              refine mx_callV yX1_addRule m_X1_addRule [.int x4, .long (mx_J M19 3 6), .long (mx_J M19 3 6)] mm_X1_addRule ml_RX4_162 im_X1_addRule se_X1_addRule (cat_s T hu) rfl rfl (Nat.le_of_ble_eq_true rfl) (mx_da t_X4_takeRule 64 rfl) rfl (Nat.le_of_ble_eq_true rfl) rfl ?_
              refine mx_mono h ?_
              intro o M28 ho
              obtain ⟨e1, e2, ho⟩ := ho
              obtain ⟨rfl, h⟩ := ho
              refine ⟨e1, ?_⟩
              have T := tp_of e1 e2 T
              have hu0 := (congrFun (congrFun e2 2) 2).trans hu0
              clear e1 e2
              show mx_W m_X4_takeRule (d + 1) 121 [.ref 2, .int ((mx_I M u 13) - 1), .int x4, .int 1, .long (mx_J M19 3 6), .retAddr 0] [] M28 Q
              refine mx_iconst (v := 1) (mx_da t_X4_takeRule 65 rfl) rfl rfl ?_
              exact mx_zret rfl rfl (mx_da t_X4_takeRule 66 rfl) h
          · have h := h.2 g9
            refine mx_aload_n 0 (mx_da t_X4_takeRule 50 rfl) rfl rfl rfl rfl ?_
            refine mx_iconst (v := 4) (mx_da t_X4_takeRule 51 rfl) rfl rfl ?_
            refine mx_callV yX4_refuse m_X4_refuse [.int 4] mm_X4_refuse ml_RX4_73 im_X4_refuse se_X4_refuse (tp_s T 2 rfl) rfl rfl (Nat.le_of_ble_eq_true rfl) (mx_da t_X4_takeRule 52 rfl) rfl (Nat.le_of_ble_eq_true rfl) rfl ?_
            refine mx_mono h ?_
            intro o M29 ho
            obtain ⟨e1, e2, ho⟩ := ho
            obtain ⟨x30, rfl, h⟩ := ho
            refine ⟨e1, ?_⟩
            have T := tp_of e1 e2 T
            have hu0 := (congrFun (congrFun e2 2) 2).trans hu0
            clear e1 e2
            show mx_W m_X4_takeRule (d + 1) 97 [.ref 2, .int ((mx_I M u 13) - 1), .int x4, .int 1, .long (mx_J M19 3 6), .retAddr 0] [.int (mx_b x30)] M29 Q
            exact mx_zret rfl (mx_bz _) (mx_da t_X4_takeRule 53 rfl) h
        · have h := h.2 (mx_b0.mp g9)
          refine mx_iconst (v := 0) (mx_da t_X4_takeRule 36 rfl) rfl rfl ?_
          exact mx_zret rfl rfl (mx_da t_X4_takeRule 37 rfl) h
    · have h := h.2 g9
      refine mx_aload_n 0 (mx_da t_X4_takeRule 15 rfl) rfl rfl rfl rfl ?_
      refine mx_iconst (v := 2) (mx_da t_X4_takeRule 16 rfl) rfl rfl ?_
      refine mx_callV yX4_refuse m_X4_refuse [.int 2] mm_X4_refuse ml_RX4_73 im_X4_refuse se_X4_refuse (tp_s T 2 rfl) rfl rfl (Nat.le_of_ble_eq_true rfl) (mx_da t_X4_takeRule 17 rfl) rfl (Nat.le_of_ble_eq_true rfl) rfl ?_
      refine mx_mono h ?_
      intro o M31 ho
      obtain ⟨e1, e2, ho⟩ := ho
      obtain ⟨x32, rfl, h⟩ := ho
      refine ⟨e1, ?_⟩
      have T := tp_of e1 e2 T
      have hu0 := (congrFun (congrFun e2 2) 2).trans hu0
      clear e1 e2
      show mx_W m_X4_takeRule (d + 1) 33 [.ref 2, .int ((mx_I M u 13) - 1), .retAddr 0, .retAddr 0, .retAddr 0, .retAddr 0] [.int (mx_b x32)] M31 Q
      exact mx_zret rfl (mx_bz _) (mx_da t_X4_takeRule 18 rfl) h
set_option maxHeartbeats 1000000 in
theorem x_X4_ruleKindHere_0 {d : Nat} {M : mx_M} {Q : mx_O → mx_M → Prop} (T : mx_Tp M) (u : Nat) (hu : mx_Cat u) (hu0 : mx_R M 2 2 = u)
    (h : (mx_W m_X8_isWord d 0 [.ref 3, .retAddr 8, .retAddr 0] [] M (fun o M1 => mx_sh M1 = mx_sh M ∧ mx_R M1 = mx_R M ∧ (∃ x2 : Bool, o = .inl (some (.int (mx_b x2))) ∧ ((x2 = false → (mx_W m_X8_isWord d 0 [.ref 3, .retAddr 10, .retAddr 0] [] M1 (fun o M3 => mx_sh M3 = mx_sh M1 ∧ mx_R M3 = mx_R M1 ∧ (∃ x4 : Bool, o = .inl (some (.int (mx_b x4))) ∧ ((x4 = false → Q (.inl (some (.int 2))) M3) ∧ (x4 = true → Q (.inl (some (.int 1))) M3)))))) ∧ (x2 = true → Q (.inl (some (.int 0))) M1)))))) :
    mx_W m_X4_ruleKindHere (d + 1) 0 [.ref 2] [] M Q := by
  refine mx_aload_n 0 (mx_da t_X4_ruleKindHere 0 rfl) rfl rfl rfl rfl ?_
  refine mx_getR 3 fs_RX4_12 rfl (tp_s T 2 rfl) (tp_r T 2 rfl) (mx_da t_X4_ruleKindHere 1 rfl) rfl ?_
  refine mx_ldcS 3 (by decide) rfl (mx_da t_X4_ruleKindHere 2 rfl) rfl ?_
  refine mx_callV yX8_isWord m_X8_isWord [.retAddr 8] mm_X8_isWord ml_RX4_79 im_X8_isWord se_X8_isWord (tp_s T 3 rfl) rfl rfl (Nat.le_of_ble_eq_true rfl) (mx_da t_X4_ruleKindHere 3 rfl) rfl (Nat.le_of_ble_eq_true rfl) rfl ?_
  refine mx_mono h ?_
  intro o M1 ho
  obtain ⟨e1, e2, ho⟩ := ho
  obtain ⟨x2, rfl, h⟩ := ho
  refine ⟨e1, ?_⟩
  have T := tp_of e1 e2 T
  have hu0 := (congrFun (congrFun e2 2) 2).trans hu0
  clear e1 e2
  show mx_W m_X4_ruleKindHere (d + 1) 9 [.ref 2] [.int (mx_b x2)] M1 Q
  refine mx_if_eq 14 (mx_da t_X4_ruleKindHere 4 rfl) rfl rfl (fun g9 => ?_) (fun g9 => ?_)
  · have h := h.1 (mx_b0.mp g9)
    refine mx_aload_n 0 (mx_da t_X4_ruleKindHere 7 rfl) rfl rfl rfl rfl ?_
    refine mx_getR 3 fs_RX4_12 rfl (tp_s T 2 rfl) (tp_r T 2 rfl) (mx_da t_X4_ruleKindHere 8 rfl) rfl ?_
    refine mx_ldcS 4 (by decide) rfl (mx_da t_X4_ruleKindHere 9 rfl) rfl ?_
    refine mx_callV yX8_isWord m_X8_isWord [.retAddr 10] mm_X8_isWord ml_RX4_79 im_X8_isWord se_X8_isWord (tp_s T 3 rfl) rfl rfl (Nat.le_of_ble_eq_true rfl) (mx_da t_X4_ruleKindHere 10 rfl) rfl (Nat.le_of_ble_eq_true rfl) rfl ?_
    refine mx_mono h ?_
    intro o M3 ho
    obtain ⟨e1, e2, ho⟩ := ho
    obtain ⟨x4, rfl, h⟩ := ho
    refine ⟨e1, ?_⟩
    have T := tp_of e1 e2 T
    have hu0 := (congrFun (congrFun e2 2) 2).trans hu0
    clear e1 e2
    show mx_W m_X4_ruleKindHere (d + 1) 23 [.ref 2] [.int (mx_b x4)] M3 Q
    refine mx_if_eq 30 (mx_da t_X4_ruleKindHere 11 rfl) rfl rfl (fun g9 => ?_) (fun g9 => ?_)
    · have h := h.1 (mx_b0.mp g9)
      refine mx_iconst (v := 2) (mx_da t_X4_ruleKindHere 14 rfl) rfl rfl ?_
      exact mx_iret rfl (mx_da t_X4_ruleKindHere 15 rfl) h
    · have h := h.2 (mx_bn.mp g9)
      refine mx_iconst (v := 1) (mx_da t_X4_ruleKindHere 12 rfl) rfl rfl ?_
      refine mx_goto (n := 31) (mx_da t_X4_ruleKindHere 13 rfl) rfl ?_
      exact mx_iret rfl (mx_da t_X4_ruleKindHere 15 rfl) h
  · have h := h.2 (mx_bn.mp g9)
    refine mx_iconst (v := 0) (mx_da t_X4_ruleKindHere 5 rfl) rfl rfl ?_
    exact mx_iret rfl (mx_da t_X4_ruleKindHere 6 rfl) h
set_option maxHeartbeats 1000000 in
theorem x_X4_takeOnce_0 {d : Nat} {M : mx_M} {Q : mx_O → mx_M → Prop} (T : mx_Tp M) (u : Nat) (hu : mx_Cat u) (hu0 : mx_R M 2 2 = u) (w : Nat) (hw : mx_shp0 w = some (.inr (.boolean, 4)))
    (h : ((((mx_I M u 13) - 1) < 0 → (mx_W m_X4_refuse d 0 [.ref 2, .int 5] [] M (fun o M1 => mx_sh M1 = mx_sh M ∧ mx_R M1 = mx_R M ∧ (∃ x2 : Bool, o = .inl (some (.int (mx_b x2))) ∧ Q (.inl (some (.int (mx_b x2)))) M1)))) ∧ (¬ ((mx_I M u 13) - 1) < 0 → (vp_in ((mx_I M u 13) - 1) 4 ∧ (((mx_I M w ((mx_I M u 13) - 1).toNatClampNeg) = 0 → (vp_in ((mx_I M u 13) - 1) 4 ∧ (∀ M3, M3 = mx_setI M w (((mx_I M u 13) - 1).toNatClampNeg) (vp_nar .boolean 1) → (mx_W m_X8_step d 0 [.ref 3, .retAddr 0] [] M3 (fun o M4 => mx_sh M4 = mx_sh M3 ∧ mx_R M4 = mx_R M3 ∧ (o = .inl none ∧ Q (.inl (some (.int (mx_b true)))) M4)))))) ∧ (¬ (mx_I M w ((mx_I M u 13) - 1).toNatClampNeg) = 0 → (mx_W m_X4_refuse d 0 [.ref 2, .int 5] [] M (fun o M5 => mx_sh M5 = mx_sh M ∧ mx_R M5 = mx_R M ∧ (∃ x6 : Bool, o = .inl (some (.int (mx_b x6))) ∧ Q (.inl (some (.int (mx_b x6)))) M5))))))))) :
    mx_W m_X4_takeOnce (d + 1) 0 [.ref 2, .ref w, .retAddr 0] [] M Q := by
  refine mx_aload_n 0 (mx_da t_X4_takeOnce 0 rfl) rfl rfl rfl rfl ?_
  refine mx_getR u fs_RX4_28 rfl (tp_s T 2 rfl) hu0 (mx_da t_X4_takeOnce 1 rfl) rfl ?_
  refine mx_getI fs_RX4_91 rfl (cat_s T hu) (mx_da t_X4_takeOnce 2 rfl) rfl ?_
  refine mx_iconst (v := 1) (mx_da t_X4_takeOnce 3 rfl) rfl rfl ?_
  refine mx_isub (mx_da t_X4_takeOnce 4 rfl) rfl ?_
  refine mx_istore_n 2 [.ref 2, .ref w, .int ((mx_I M u 13) - 1)] (mx_da t_X4_takeOnce 5 rfl) rfl rfl (by decide) rfl ?_
  refine mx_iload_n 2 (mx_da t_X4_takeOnce 6 rfl) rfl rfl rfl ?_
  refine mx_if_lt 20 (mx_da t_X4_takeOnce 7 rfl) rfl rfl (fun g9 => ?_) (fun g9 => ?_)
  · have h := h.1 g9
    refine mx_aload_n 0 (mx_da t_X4_takeOnce 12 rfl) rfl rfl rfl rfl ?_
    refine mx_iconst (v := 5) (mx_da t_X4_takeOnce 13 rfl) rfl rfl ?_
    refine mx_callV yX4_refuse m_X4_refuse [.int 5] mm_X4_refuse ml_RX4_73 im_X4_refuse se_X4_refuse (tp_s T 2 rfl) rfl rfl (Nat.le_of_ble_eq_true rfl) (mx_da t_X4_takeOnce 14 rfl) rfl (Nat.le_of_ble_eq_true rfl) rfl ?_
    refine mx_mono h ?_
    intro o M1 ho
    obtain ⟨e1, e2, ho⟩ := ho
    obtain ⟨x2, rfl, h⟩ := ho
    refine ⟨e1, ?_⟩
    have T := tp_of e1 e2 T
    have hu0 := (congrFun (congrFun e2 2) 2).trans hu0
    clear e1 e2
    show mx_W m_X4_takeOnce (d + 1) 25 [.ref 2, .ref w, .int ((mx_I M u 13) - 1)] [.int (mx_b x2)] M1 Q
    exact mx_zret rfl (mx_bz _) (mx_da t_X4_takeOnce 15 rfl) h
  · have h := h.2 g9
    refine mx_aload_n 1 (mx_da t_X4_takeOnce 8 rfl) rfl rfl rfl rfl ?_
    refine mx_iload_n 2 (mx_da t_X4_takeOnce 9 rfl) rfl rfl rfl ?_
    refine mx_zald (tp_s T w hw) h.1 (mx_da t_X4_takeOnce 10 rfl) rfl ?_
    have h := h.2
    refine mx_if_eq 26 (mx_da t_X4_takeOnce 11 rfl) rfl rfl (fun g9 => ?_) (fun g9 => ?_)
    · have h := h.1 g9
      refine mx_aload_n 1 (mx_da t_X4_takeOnce 16 rfl) rfl rfl rfl rfl ?_
      refine mx_iload_n 2 (mx_da t_X4_takeOnce 17 rfl) rfl rfl rfl ?_
      refine mx_iconst (v := 1) (mx_da t_X4_takeOnce 18 rfl) rfl rfl ?_
      refine mx_zast (tp_s T w hw) h.1 (mx_da t_X4_takeOnce 19 rfl) rfl ?_
      have h := h.2
      refine mx_gen (mx_setI M w (((mx_I M u 13) - 1).toNatClampNeg) (vp_nar .boolean 1)) (fun M3 e9 => ?_)
      have h := h _ e9
      have T : mx_Tp M3 := tp_e e9 T
      have hu0 : mx_R M3 2 2 = u := rr_e e9 hu0
      refine mx_aload_n 0 (mx_da t_X4_takeOnce 20 rfl) rfl rfl rfl rfl ?_
      refine mx_getR 3 fs_RX4_12 rfl (tp_s T 2 rfl) (tp_r T 2 rfl) (mx_da t_X4_takeOnce 21 rfl) rfl ?_
      refine mx_callV yX8_step m_X8_step [] mm_X8_step ml_RX4_70 im_X8_step se_X8_step (tp_s T 3 rfl) rfl rfl (Nat.le_of_ble_eq_true rfl) (mx_da t_X4_takeOnce 22 rfl) rfl (Nat.le_of_ble_eq_true rfl) rfl ?_
      refine mx_mono h ?_
      intro o M4 ho
      obtain ⟨e1, e2, ho⟩ := ho
      obtain ⟨rfl, h⟩ := ho
      refine ⟨e1, ?_⟩
      have T := tp_of e1 e2 T
      have hu0 := (congrFun (congrFun e2 2) 2).trans hu0
      clear e1 e2
      show mx_W m_X4_takeOnce (d + 1) 37 [.ref 2, .ref w, .int ((mx_I M u 13) - 1)] [] M4 Q
      refine mx_iconst (v := 1) (mx_da t_X4_takeOnce 23 rfl) rfl rfl ?_
      exact mx_zret rfl rfl (mx_da t_X4_takeOnce 24 rfl) h
    · have h := h.2 g9
      refine mx_aload_n 0 (mx_da t_X4_takeOnce 12 rfl) rfl rfl rfl rfl ?_
      refine mx_iconst (v := 5) (mx_da t_X4_takeOnce 13 rfl) rfl rfl ?_
      refine mx_callV yX4_refuse m_X4_refuse [.int 5] mm_X4_refuse ml_RX4_73 im_X4_refuse se_X4_refuse (tp_s T 2 rfl) rfl rfl (Nat.le_of_ble_eq_true rfl) (mx_da t_X4_takeOnce 14 rfl) rfl (Nat.le_of_ble_eq_true rfl) rfl ?_
      refine mx_mono h ?_
      intro o M5 ho
      obtain ⟨e1, e2, ho⟩ := ho
      obtain ⟨x6, rfl, h⟩ := ho
      refine ⟨e1, ?_⟩
      have T := tp_of e1 e2 T
      have hu0 := (congrFun (congrFun e2 2) 2).trans hu0
      clear e1 e2
      show mx_W m_X4_takeOnce (d + 1) 25 [.ref 2, .ref w, .int ((mx_I M u 13) - 1)] [.int (mx_b x6)] M5 Q
      exact mx_zret rfl (mx_bz _) (mx_da t_X4_takeOnce 15 rfl) h
set_option maxHeartbeats 1000000 in
theorem x_X4_takeTie_0 {d : Nat} {M : mx_M} {Q : mx_O → mx_M → Prop} (T : mx_Tp M) (u : Nat) (hu : mx_Cat u) (hu0 : mx_R M 2 2 = u)
    (h : (mx_W m_X4_takeOnce d 0 [.ref 2, .ref (u + 11), .retAddr 0] [] M (fun o M1 => mx_sh M1 = mx_sh M ∧ mx_R M1 = mx_R M ∧ (∃ x2 : Bool, o = .inl (some (.int (mx_b x2))) ∧ ((x2 = true → (vp_in ((mx_I M1 u 13) - 1) 4 ∧ (∀ M3, M3 = mx_setI M1 8 (((mx_I M1 u 13) - 1).toNatClampNeg) (mx_I M1 6 4) → (mx_W m_X4_takeExpression d 0 [.ref 2, .int 0, .retAddr 0] [] M3 (fun o M4 => mx_sh M4 = mx_sh M3 ∧ mx_R M4 = mx_R M3 ∧ (∃ x5 : Bool, o = .inl (some (.int (mx_b x5))) ∧ (vp_in ((mx_I M1 u 13) - 1) 4 ∧ (∀ M6, M6 = mx_setI M4 9 (((mx_I M1 u 13) - 1).toNatClampNeg) (mx_I M4 6 4) → Q (.inl (some (.int (mx_b x5)))) M6)))))))) ∧ (x2 = false → Q (.inl (some (.int (mx_b false)))) M1)))))) :
    mx_W m_X4_takeTie (d + 1) 0 [.ref 2, .retAddr 0, .retAddr 0] [] M Q := by
  refine mx_aload_n 0 (mx_da t_X4_takeTie 0 rfl) rfl rfl rfl rfl ?_
  refine mx_aload_n 0 (mx_da t_X4_takeTie 1 rfl) rfl rfl rfl rfl ?_
  refine mx_getR u fs_RX4_28 rfl (tp_s T 2 rfl) hu0 (mx_da t_X4_takeTie 2 rfl) rfl ?_
  refine mx_getR (u + 11) fs_RX4_166 rfl (cat_s T hu) (cat_r10 T hu) (mx_da t_X4_takeTie 3 rfl) rfl ?_
  refine mx_callV yX4_takeOnce m_X4_takeOnce [.ref (u + 11)] mm_X4_takeOnce ml_RX4_109 im_X4_takeOnce se_X4_takeOnce (tp_s T 2 rfl) rfl rfl (Nat.le_of_ble_eq_true rfl) (mx_da t_X4_takeTie 4 rfl) rfl (Nat.le_of_ble_eq_true rfl) rfl ?_
  refine mx_mono h ?_
  intro o M1 ho
  obtain ⟨e1, e2, ho⟩ := ho
  obtain ⟨x2, rfl, h⟩ := ho
  refine ⟨e1, ?_⟩
  have T := tp_of e1 e2 T
  have hu0 := (congrFun (congrFun e2 2) 2).trans hu0
  clear e1 e2
  show mx_W m_X4_takeTie (d + 1) 11 [.ref 2, .retAddr 0, .retAddr 0] [.int (mx_b x2)] M1 Q
  refine mx_if_ne 16 (mx_da t_X4_takeTie 5 rfl) rfl rfl (fun g9 => ?_) (fun g9 => ?_)
  · have h := h.1 (mx_bn.mp g9)
    refine mx_aload_n 0 (mx_da t_X4_takeTie 8 rfl) rfl rfl rfl rfl ?_
    refine mx_getR u fs_RX4_28 rfl (tp_s T 2 rfl) hu0 (mx_da t_X4_takeTie 9 rfl) rfl ?_
    refine mx_getI fs_RX4_91 rfl (cat_s T hu) (mx_da t_X4_takeTie 10 rfl) rfl ?_
    refine mx_iconst (v := 1) (mx_da t_X4_takeTie 11 rfl) rfl rfl ?_
    refine mx_isub (mx_da t_X4_takeTie 12 rfl) rfl ?_
    refine mx_istore_n 1 [.ref 2, .int ((mx_I M1 u 13) - 1), .retAddr 0] (mx_da t_X4_takeTie 13 rfl) rfl rfl (by decide) rfl ?_
    refine mx_aload_n 0 (mx_da t_X4_takeTie 14 rfl) rfl rfl rfl rfl ?_
    refine mx_getR 6 fs_RX4_21 rfl (tp_s T 2 rfl) (tp_r T 7 rfl) (mx_da t_X4_takeTie 15 rfl) rfl ?_
    refine mx_getR 8 fs_RX4_169 rfl (tp_s T 6 rfl) (tp_r T 4 rfl) (mx_da t_X4_takeTie 16 rfl) rfl ?_
    refine mx_iload_n 1 (mx_da t_X4_takeTie 17 rfl) rfl rfl rfl ?_
    refine mx_aload_n 0 (mx_da t_X4_takeTie 18 rfl) rfl rfl rfl rfl ?_
    refine mx_getR 6 fs_RX4_21 rfl (tp_s T 2 rfl) (tp_r T 7 rfl) (mx_da t_X4_takeTie 19 rfl) rfl ?_
    refine mx_getI fs_RX4_42 rfl (tp_s T 6 rfl) (mx_da t_X4_takeTie 20 rfl) rfl ?_
    refine mx_iast (tp_s T 8 rfl) h.1 (mx_da t_X4_takeTie 21 rfl) rfl ?_
    have h := h.2
    refine mx_gen (mx_setI M1 8 (((mx_I M1 u 13) - 1).toNatClampNeg) (mx_I M1 6 4)) (fun M3 e9 => ?_)
    have h := h _ e9
    have T : mx_Tp M3 := tp_e e9 T
    have hu0 : mx_R M3 2 2 = u := rr_e e9 hu0
    refine mx_aload_n 0 (mx_da t_X4_takeTie 22 rfl) rfl rfl rfl rfl ?_
    refine mx_iconst (v := 0) (mx_da t_X4_takeTie 23 rfl) rfl rfl ?_
    refine mx_callV yX4_takeExpression m_X4_takeExpression [.int 0] mm_X4_takeExpression ml_RX4_172 im_X4_takeExpression se_X4_takeExpression (tp_s T 2 rfl) rfl rfl (Nat.le_of_ble_eq_true rfl) (mx_da t_X4_takeTie 24 rfl) rfl (Nat.le_of_ble_eq_true rfl) rfl ?_
    refine mx_mono h ?_
    intro o M4 ho
    obtain ⟨e1, e2, ho⟩ := ho
    obtain ⟨x5, rfl, h⟩ := ho
    refine ⟨e1, ?_⟩
    have T := tp_of e1 e2 T
    have hu0 := (congrFun (congrFun e2 2) 2).trans hu0
    clear e1 e2
    show mx_W m_X4_takeTie (d + 1) 47 [.ref 2, .int ((mx_I M1 u 13) - 1), .retAddr 0] [.int (mx_b x5)] M4 Q
    refine mx_istore_n 2 [.ref 2, .int ((mx_I M1 u 13) - 1), .int (mx_b x5)] (mx_da t_X4_takeTie 25 rfl) rfl rfl (by decide) rfl ?_
    refine mx_aload_n 0 (mx_da t_X4_takeTie 26 rfl) rfl rfl rfl rfl ?_
    refine mx_getR 6 fs_RX4_21 rfl (tp_s T 2 rfl) (tp_r T 7 rfl) (mx_da t_X4_takeTie 27 rfl) rfl ?_
    refine mx_getR 9 fs_RX4_175 rfl (tp_s T 6 rfl) (tp_r T 5 rfl) (mx_da t_X4_takeTie 28 rfl) rfl ?_
    refine mx_iload_n 1 (mx_da t_X4_takeTie 29 rfl) rfl rfl rfl ?_
    refine mx_aload_n 0 (mx_da t_X4_takeTie 30 rfl) rfl rfl rfl rfl ?_
    refine mx_getR 6 fs_RX4_21 rfl (tp_s T 2 rfl) (tp_r T 7 rfl) (mx_da t_X4_takeTie 31 rfl) rfl ?_
    refine mx_getI fs_RX4_42 rfl (tp_s T 6 rfl) (mx_da t_X4_takeTie 32 rfl) rfl ?_
    refine mx_iast (tp_s T 9 rfl) h.1 (mx_da t_X4_takeTie 33 rfl) rfl ?_
    have h := h.2
    refine mx_gen (mx_setI M4 9 (((mx_I M1 u 13) - 1).toNatClampNeg) (mx_I M4 6 4)) (fun M6 e9 => ?_)
    have h := h _ e9
    have T : mx_Tp M6 := tp_e e9 T
    have hu0 : mx_R M6 2 2 = u := rr_e e9 hu0
    refine mx_iload_n 2 (mx_da t_X4_takeTie 34 rfl) rfl rfl rfl ?_
    exact mx_zret rfl (mx_bz _) (mx_da t_X4_takeTie 35 rfl) h
  · have h := h.2 (mx_b0.mp g9)
    refine mx_iconst (v := 0) (mx_da t_X4_takeTie 6 rfl) rfl rfl ?_
    exact mx_zret rfl rfl (mx_da t_X4_takeTie 7 rfl) h
set_option maxHeartbeats 1000000 in
theorem x_X4_takeExpression_0 {d : Nat} {M : mx_M} {Q : mx_O → mx_M → Prop} (T : mx_Tp M) (u : Nat) (hu : mx_Cat u) (hu0 : mx_R M 2 2 = u) (v1 : Int32)
    (h : ((v1 ≤ (5 : Int32) → (mx_W m_X4_takeAnd d 0 [.ref 2, .int v1, .retAddr 0] [] M (fun o M1 => mx_sh M1 = mx_sh M ∧ mx_R M1 = mx_R M ∧ (∃ x2 : Bool, o = .inl (some (.int (mx_b x2))) ∧ ((x2 = true → mx_W m_X4_takeExpression (d + 1) 22 [.ref 2, .int v1, .int 0] [] M1 Q) ∧ (x2 = false → Q (.inl (some (.int (mx_b false)))) M1)))))) ∧ (¬ v1 ≤ (5 : Int32) → (mx_W m_X4_refuseTooDeep d 0 [.ref 2, .retAddr 0] [] M (fun o M3 => mx_sh M3 = mx_sh M ∧ mx_R M3 = mx_R M ∧ (∃ x4 : Bool, o = .inl (some (.int (mx_b x4))) ∧ Q (.inl (some (.int (mx_b x4)))) M3)))))) :
    mx_W m_X4_takeExpression (d + 1) 0 [.ref 2, .int v1, .retAddr 0] [] M Q := by
  refine mx_iload_n 1 (mx_da t_X4_takeExpression 0 rfl) rfl rfl rfl ?_
  refine mx_iconst (v := 5) (mx_da t_X4_takeExpression 1 rfl) rfl rfl ?_
  refine mx_icmp_le 10 (mx_da t_X4_takeExpression 2 rfl) rfl rfl (fun g9 => ?_) (fun g9 => ?_)
  · have h := h.1 g9
    refine mx_aload_n 0 (mx_da t_X4_takeExpression 6 rfl) rfl rfl rfl rfl ?_
    refine mx_iload_n 1 (mx_da t_X4_takeExpression 7 rfl) rfl rfl rfl ?_
    refine mx_callV yX4_takeAnd m_X4_takeAnd [.int v1] mm_X4_takeAnd ml_RX4_181 im_X4_takeAnd se_X4_takeAnd (tp_s T 2 rfl) rfl rfl (Nat.le_of_ble_eq_true rfl) (mx_da t_X4_takeExpression 8 rfl) rfl (Nat.le_of_ble_eq_true rfl) rfl ?_
    refine mx_mono h ?_
    intro o M1 ho
    obtain ⟨e1, e2, ho⟩ := ho
    obtain ⟨x2, rfl, h⟩ := ho
    refine ⟨e1, ?_⟩
    have T := tp_of e1 e2 T
    have hu0 := (congrFun (congrFun e2 2) 2).trans hu0
    clear e1 e2
    show mx_W m_X4_takeExpression (d + 1) 15 [.ref 2, .int v1, .retAddr 0] [.int (mx_b x2)] M1 Q
    refine mx_if_ne 20 (mx_da t_X4_takeExpression 9 rfl) rfl rfl (fun g9 => ?_) (fun g9 => ?_)
    · have h := h.1 (mx_bn.mp g9)
      refine mx_iconst (v := 0) (mx_da t_X4_takeExpression 12 rfl) rfl rfl ?_
      refine mx_istore_n 2 [.ref 2, .int v1, .int 0] (mx_da t_X4_takeExpression 13 rfl) rfl rfl (by decide) rfl ?_
      exact h
    · have h := h.2 (mx_b0.mp g9)
      refine mx_iconst (v := 0) (mx_da t_X4_takeExpression 10 rfl) rfl rfl ?_
      exact mx_zret rfl rfl (mx_da t_X4_takeExpression 11 rfl) h
  · have h := h.2 g9
    refine mx_aload_n 0 (mx_da t_X4_takeExpression 3 rfl) rfl rfl rfl rfl ?_
    refine mx_callV yX4_refuseTooDeep m_X4_refuseTooDeep [] mm_X4_refuseTooDeep ml_RX4_178 im_X4_refuseTooDeep se_X4_refuseTooDeep (tp_s T 2 rfl) rfl rfl (Nat.le_of_ble_eq_true rfl) (mx_da t_X4_takeExpression 4 rfl) rfl (Nat.le_of_ble_eq_true rfl) rfl ?_
    refine mx_mono h ?_
    intro o M3 ho
    obtain ⟨e1, e2, ho⟩ := ho
    obtain ⟨x4, rfl, h⟩ := ho
    refine ⟨e1, ?_⟩
    have T := tp_of e1 e2 T
    have hu0 := (congrFun (congrFun e2 2) 2).trans hu0
    clear e1 e2
    show mx_W m_X4_takeExpression (d + 1) 9 [.ref 2, .int v1, .retAddr 0] [.int (mx_b x4)] M3 Q
    exact mx_zret rfl (mx_bz _) (mx_da t_X4_takeExpression 5 rfl) h
set_option maxHeartbeats 1000000 in
theorem x_X4_takeExpression_22 {d : Nat} {M : mx_M} {Q : mx_O → mx_M → Prop} (T : mx_Tp M) (u : Nat) (hu : mx_Cat u) (hu0 : mx_R M 2 2 = u) (v1 : Int32) (v2 : Int32)
    (h : (((700 : Int32) ≤ v2 → Q (.inl (some (.int (mx_b true)))) M) ∧ (¬ (700 : Int32) ≤ v2 → (mx_W m_X8_isWord d 0 [.ref 3, .retAddr 32, .retAddr 0] [] M (fun o M1 => mx_sh M1 = mx_sh M ∧ mx_R M1 = mx_R M ∧ (∃ x2 : Bool, o = .inl (some (.int (mx_b x2))) ∧ ((x2 = false → Q (.inl (some (.int (mx_b true)))) M1) ∧ (x2 = true → (mx_W m_X8_step d 0 [.ref 3, .retAddr 0] [] M1 (fun o M3 => mx_sh M3 = mx_sh M1 ∧ mx_R M3 = mx_R M1 ∧ (o = .inl none ∧ (mx_W m_X4_takeAnd d 0 [.ref 2, .int v1, .retAddr 0] [] M3 (fun o M4 => mx_sh M4 = mx_sh M3 ∧ mx_R M4 = mx_R M3 ∧ (∃ x5 : Bool, o = .inl (some (.int (mx_b x5))) ∧ ((x5 = true → (mx_W m_X7_addStep d 0 [.ref 6, .int (-7)] [] M4 (fun o M6 => mx_sh M6 = mx_sh M4 ∧ mx_R M6 = mx_R M4 ∧ (o = .inl none ∧ mx_W m_X4_takeExpression (d + 1) 22 [.ref 2, .int v1, .int (v2 + 1)] [] M6 Q)))) ∧ (x5 = false → Q (.inl (some (.int (mx_b false)))) M4)))))))))))))))) :
    mx_W m_X4_takeExpression (d + 1) 22 [.ref 2, .int v1, .int v2] [] M Q := by
  refine mx_iload_n 2 (mx_da t_X4_takeExpression 14 rfl) rfl rfl rfl ?_
  refine mx_sipush (v := 700) (mx_da t_X4_takeExpression 15 rfl) rfl rfl ?_
  refine mx_icmp_ge 73 (mx_da t_X4_takeExpression 16 rfl) rfl rfl (fun g9 => ?_) (fun g9 => ?_)
  · have h := h.1 g9
    refine mx_iconst (v := 1) (mx_da t_X4_takeExpression 37 rfl) rfl rfl ?_
    exact mx_zret rfl rfl (mx_da t_X4_takeExpression 38 rfl) h
  · have h := h.2 g9
    refine mx_aload_n 0 (mx_da t_X4_takeExpression 17 rfl) rfl rfl rfl rfl ?_
    refine mx_getR 3 fs_RX4_12 rfl (tp_s T 2 rfl) (tp_r T 2 rfl) (mx_da t_X4_takeExpression 18 rfl) rfl ?_
    refine mx_ldcS 15 (by decide) rfl (mx_da t_X4_takeExpression 19 rfl) rfl ?_
    refine mx_callV yX8_isWord m_X8_isWord [.retAddr 32] mm_X8_isWord ml_RX4_79 im_X8_isWord se_X8_isWord (tp_s T 3 rfl) rfl rfl (Nat.le_of_ble_eq_true rfl) (mx_da t_X4_takeExpression 20 rfl) rfl (Nat.le_of_ble_eq_true rfl) rfl ?_
    refine mx_mono h ?_
    intro o M1 ho
    obtain ⟨e1, e2, ho⟩ := ho
    obtain ⟨x2, rfl, h⟩ := ho
    refine ⟨e1, ?_⟩
    have T := tp_of e1 e2 T
    have hu0 := (congrFun (congrFun e2 2) 2).trans hu0
    clear e1 e2
    show mx_W m_X4_takeExpression (d + 1) 38 [.ref 2, .int v1, .int v2] [.int (mx_b x2)] M1 Q
    refine mx_if_eq 73 (mx_da t_X4_takeExpression 21 rfl) rfl rfl (fun g9 => ?_) (fun g9 => ?_)
    · have h := h.1 (mx_b0.mp g9)
      refine mx_iconst (v := 1) (mx_da t_X4_takeExpression 37 rfl) rfl rfl ?_
      exact mx_zret rfl rfl (mx_da t_X4_takeExpression 38 rfl) h
    · have h := h.2 (mx_bn.mp g9)
      refine mx_aload_n 0 (mx_da t_X4_takeExpression 22 rfl) rfl rfl rfl rfl ?_
      refine mx_getR 3 fs_RX4_12 rfl (tp_s T 2 rfl) (tp_r T 2 rfl) (mx_da t_X4_takeExpression 23 rfl) rfl ?_
      refine mx_callV yX8_step m_X8_step [] mm_X8_step ml_RX4_70 im_X8_step se_X8_step (tp_s T 3 rfl) rfl rfl (Nat.le_of_ble_eq_true rfl) (mx_da t_X4_takeExpression 24 rfl) rfl (Nat.le_of_ble_eq_true rfl) rfl ?_
      refine mx_mono h ?_
      intro o M3 ho
      obtain ⟨e1, e2, ho⟩ := ho
      obtain ⟨rfl, h⟩ := ho
      refine ⟨e1, ?_⟩
      have T := tp_of e1 e2 T
      have hu0 := (congrFun (congrFun e2 2) 2).trans hu0
      clear e1 e2
      show mx_W m_X4_takeExpression (d + 1) 48 [.ref 2, .int v1, .int v2] [] M3 Q
      refine mx_aload_n 0 (mx_da t_X4_takeExpression 25 rfl) rfl rfl rfl rfl ?_
      refine mx_iload_n 1 (mx_da t_X4_takeExpression 26 rfl) rfl rfl rfl ?_
      refine mx_callV yX4_takeAnd m_X4_takeAnd [.int v1] mm_X4_takeAnd ml_RX4_181 im_X4_takeAnd se_X4_takeAnd (tp_s T 2 rfl) rfl rfl (Nat.le_of_ble_eq_true rfl) (mx_da t_X4_takeExpression 27 rfl) rfl (Nat.le_of_ble_eq_true rfl) rfl ?_
      refine mx_mono h ?_
      intro o M4 ho
      obtain ⟨e1, e2, ho⟩ := ho
      obtain ⟨x5, rfl, h⟩ := ho
      refine ⟨e1, ?_⟩
      have T := tp_of e1 e2 T
      have hu0 := (congrFun (congrFun e2 2) 2).trans hu0
      clear e1 e2
      show mx_W m_X4_takeExpression (d + 1) 53 [.ref 2, .int v1, .int v2] [.int (mx_b x5)] M4 Q
      refine mx_if_ne 58 (mx_da t_X4_takeExpression 28 rfl) rfl rfl (fun g9 => ?_) (fun g9 => ?_)
      · have h := h.1 (mx_bn.mp g9)
        refine mx_aload_n 0 (mx_da t_X4_takeExpression 31 rfl) rfl rfl rfl rfl ?_
        refine mx_getR 6 fs_RX4_21 rfl (tp_s T 2 rfl) (tp_r T 7 rfl) (mx_da t_X4_takeExpression 32 rfl) rfl ?_
        refine mx_bipush (v := (-7)) (mx_da t_X4_takeExpression 33 rfl) rfl rfl ?_
        refine mx_callV yX7_addStep m_X7_addStep [.int (-7)] mm_X7_addStep ml_RX4_186 im_X7_addStep se_X7_addStep (tp_s T 6 rfl) rfl rfl (Nat.le_of_ble_eq_true rfl) (mx_da t_X4_takeExpression 34 rfl) rfl (Nat.le_of_ble_eq_true rfl) rfl ?_
        refine mx_mono h ?_
        intro o M6 ho
        obtain ⟨e1, e2, ho⟩ := ho
        obtain ⟨rfl, h⟩ := ho
        refine ⟨e1, ?_⟩
        have T := tp_of e1 e2 T
        have hu0 := (congrFun (congrFun e2 2) 2).trans hu0
        clear e1 e2
        show mx_W m_X4_takeExpression (d + 1) 67 [.ref 2, .int v1, .int v2] [] M6 Q
        refine mx_iinc 2 (v := v2 + 1) [.ref 2, .int v1, .int (v2 + 1)] (mx_da t_X4_takeExpression 35 rfl) rfl (by decide) rfl rfl rfl ?_
        refine mx_goto (n := 22) (mx_da t_X4_takeExpression 36 rfl) rfl ?_
        exact h
      · have h := h.2 (mx_b0.mp g9)
        refine mx_iconst (v := 0) (mx_da t_X4_takeExpression 29 rfl) rfl rfl ?_
        exact mx_zret rfl rfl (mx_da t_X4_takeExpression 30 rfl) h
set_option maxHeartbeats 1000000 in
theorem x_X4_refuseTooDeep_0 {d : Nat} {M : mx_M} {Q : mx_O → mx_M → Prop} (T : mx_Tp M) (u : Nat) (hu : mx_Cat u) (hu0 : mx_R M 2 2 = u)
    (h : (((mx_I M 3 4) = (2 : Int32) → (mx_W m_X4_refuse d 0 [.ref 2, .int 2] [] M (fun o M1 => mx_sh M1 = mx_sh M ∧ mx_R M1 = mx_R M ∧ (∃ x2 : Bool, o = .inl (some (.int (mx_b x2))) ∧ Q (.inl (some (.int (mx_b x2)))) M1)))) ∧ (¬ (mx_I M 3 4) = (2 : Int32) → (((mx_I M 3 4) = (1 : Int32) → (mx_W m_X4_refuse d 0 [.ref 2, .int 2] [] M (fun o M3 => mx_sh M3 = mx_sh M ∧ mx_R M3 = mx_R M ∧ (∃ x4 : Bool, o = .inl (some (.int (mx_b x4))) ∧ Q (.inl (some (.int (mx_b x4)))) M3)))) ∧ (¬ (mx_I M 3 4) = (1 : Int32) → (mx_W m_X8_isSign d 0 [.ref 3, .int 40] [] M (fun o M5 => mx_sh M5 = mx_sh M ∧ mx_R M5 = mx_R M ∧ (∃ x6 : Bool, o = .inl (some (.int (mx_b x6))) ∧ ((x6 = false → (mx_W m_X4_refuse d 0 [.ref 2, .int 1] [] M5 (fun o M7 => mx_sh M7 = mx_sh M5 ∧ mx_R M7 = mx_R M5 ∧ (∃ x8 : Bool, o = .inl (some (.int (mx_b x8))) ∧ Q (.inl (some (.int (mx_b x8)))) M7)))) ∧ (x6 = true → (mx_W m_X4_refuse d 0 [.ref 2, .int 2] [] M5 (fun o M9 => mx_sh M9 = mx_sh M5 ∧ mx_R M9 = mx_R M5 ∧ (∃ x10 : Bool, o = .inl (some (.int (mx_b x10))) ∧ Q (.inl (some (.int (mx_b x10)))) M9))))))))))))) :
    mx_W m_X4_refuseTooDeep (d + 1) 0 [.ref 2, .retAddr 0] [] M Q := by
  refine mx_aload_n 0 (mx_da t_X4_refuseTooDeep 0 rfl) rfl rfl rfl rfl ?_
  refine mx_getR 3 fs_RX4_12 rfl (tp_s T 2 rfl) (tp_r T 2 rfl) (mx_da t_X4_refuseTooDeep 1 rfl) rfl ?_
  refine mx_getI fs_RX4_49 rfl (tp_s T 3 rfl) (mx_da t_X4_refuseTooDeep 2 rfl) rfl ?_
  refine mx_iconst (v := 2) (mx_da t_X4_refuseTooDeep 3 rfl) rfl rfl ?_
  refine mx_icmp_eq 34 (mx_da t_X4_refuseTooDeep 4 rfl) rfl rfl (fun g9 => ?_) (fun g9 => ?_)
  · have h := h.1 g9
    refine mx_iconst (v := 1) (mx_da t_X4_refuseTooDeep 15 rfl) rfl rfl ?_
    refine mx_goto (n := 39) (mx_da t_X4_refuseTooDeep 16 rfl) rfl ?_
    refine mx_istore_n 1 [.ref 2, .int 1] (mx_da t_X4_refuseTooDeep 18 rfl) rfl rfl (by decide) rfl ?_
    refine mx_aload_n 0 (mx_da t_X4_refuseTooDeep 19 rfl) rfl rfl rfl rfl ?_
    refine mx_iload_n 1 (mx_da t_X4_refuseTooDeep 20 rfl) rfl rfl rfl ?_
    refine mx_if_eq 49 (mx_da t_X4_refuseTooDeep 21 rfl) rfl rfl (fun g9 => absurd g9 (by decide)) (fun g9 => ?_)
    refine mx_iconst (v := 2) (mx_da t_X4_refuseTooDeep 22 rfl) rfl rfl ?_
    refine mx_goto (n := 50) (mx_da t_X4_refuseTooDeep 23 rfl) rfl ?_
    refine mx_callV yX4_refuse m_X4_refuse [.int 2] mm_X4_refuse ml_RX4_73 im_X4_refuse se_X4_refuse (tp_s T 2 rfl) rfl rfl (Nat.le_of_ble_eq_true rfl) (mx_da t_X4_refuseTooDeep 25 rfl) rfl (Nat.le_of_ble_eq_true rfl) rfl ?_
    refine mx_mono h ?_
    intro o M1 ho
    obtain ⟨e1, e2, ho⟩ := ho
    obtain ⟨x2, rfl, h⟩ := ho
    refine ⟨e1, ?_⟩
    have T := tp_of e1 e2 T
    have hu0 := (congrFun (congrFun e2 2) 2).trans hu0
    clear e1 e2
    show mx_W m_X4_refuseTooDeep (d + 1) 53 [.ref 2, .int 1] [.int (mx_b x2)] M1 Q
    exact mx_zret rfl (mx_bz _) (mx_da t_X4_refuseTooDeep 26 rfl) h
  · have h := h.2 g9
    refine mx_aload_n 0 (mx_da t_X4_refuseTooDeep 5 rfl) rfl rfl rfl rfl ?_
    refine mx_getR 3 fs_RX4_12 rfl (tp_s T 2 rfl) (tp_r T 2 rfl) (mx_da t_X4_refuseTooDeep 6 rfl) rfl ?_
    refine mx_getI fs_RX4_49 rfl (tp_s T 3 rfl) (mx_da t_X4_refuseTooDeep 7 rfl) rfl ?_
    refine mx_iconst (v := 1) (mx_da t_X4_refuseTooDeep 8 rfl) rfl rfl ?_
    refine mx_icmp_eq 34 (mx_da t_X4_refuseTooDeep 9 rfl) rfl rfl (fun g9 => ?_) (fun g9 => ?_)
    · have h := h.1 g9
      refine mx_iconst (v := 1) (mx_da t_X4_refuseTooDeep 15 rfl) rfl rfl ?_
      refine mx_goto (n := 39) (mx_da t_X4_refuseTooDeep 16 rfl) rfl ?_
      refine mx_istore_n 1 [.ref 2, .int 1] (mx_da t_X4_refuseTooDeep 18 rfl) rfl rfl (by decide) rfl ?_
      refine mx_aload_n 0 (mx_da t_X4_refuseTooDeep 19 rfl) rfl rfl rfl rfl ?_
      refine mx_iload_n 1 (mx_da t_X4_refuseTooDeep 20 rfl) rfl rfl rfl ?_
      refine mx_if_eq 49 (mx_da t_X4_refuseTooDeep 21 rfl) rfl rfl (fun g9 => absurd g9 (by decide)) (fun g9 => ?_)
      refine mx_iconst (v := 2) (mx_da t_X4_refuseTooDeep 22 rfl) rfl rfl ?_
      refine mx_goto (n := 50) (mx_da t_X4_refuseTooDeep 23 rfl) rfl ?_
      refine mx_callV yX4_refuse m_X4_refuse [.int 2] mm_X4_refuse ml_RX4_73 im_X4_refuse se_X4_refuse (tp_s T 2 rfl) rfl rfl (Nat.le_of_ble_eq_true rfl) (mx_da t_X4_refuseTooDeep 25 rfl) rfl (Nat.le_of_ble_eq_true rfl) rfl ?_
      refine mx_mono h ?_
      intro o M3 ho
      obtain ⟨e1, e2, ho⟩ := ho
      obtain ⟨x4, rfl, h⟩ := ho
      refine ⟨e1, ?_⟩
      have T := tp_of e1 e2 T
      have hu0 := (congrFun (congrFun e2 2) 2).trans hu0
      clear e1 e2
      show mx_W m_X4_refuseTooDeep (d + 1) 53 [.ref 2, .int 1] [.int (mx_b x4)] M3 Q
      exact mx_zret rfl (mx_bz _) (mx_da t_X4_refuseTooDeep 26 rfl) h
    · have h := h.2 g9
      refine mx_aload_n 0 (mx_da t_X4_refuseTooDeep 10 rfl) rfl rfl rfl rfl ?_
      refine mx_getR 3 fs_RX4_12 rfl (tp_s T 2 rfl) (tp_r T 2 rfl) (mx_da t_X4_refuseTooDeep 11 rfl) rfl ?_
      refine mx_bipush (v := 40) (mx_da t_X4_refuseTooDeep 12 rfl) rfl rfl ?_
      refine mx_callV yX8_isSign m_X8_isSign [.int 40] mm_X8_isSign ml_RX4_66 im_X8_isSign se_X8_isSign (tp_s T 3 rfl) rfl rfl (Nat.le_of_ble_eq_true rfl) (mx_da t_X4_refuseTooDeep 13 rfl) rfl (Nat.le_of_ble_eq_true rfl) rfl ?_
      refine mx_mono h ?_
      intro o M5 ho
      obtain ⟨e1, e2, ho⟩ := ho
      obtain ⟨x6, rfl, h⟩ := ho
      refine ⟨e1, ?_⟩
      have T := tp_of e1 e2 T
      have hu0 := (congrFun (congrFun e2 2) 2).trans hu0
      clear e1 e2
      show mx_W m_X4_refuseTooDeep (d + 1) 31 [.ref 2, .retAddr 0] [.int (mx_b x6)] M5 Q
      refine mx_if_eq 38 (mx_da t_X4_refuseTooDeep 14 rfl) rfl rfl (fun g9 => ?_) (fun g9 => ?_)
      · have h := h.1 (mx_b0.mp g9)
        refine mx_iconst (v := 0) (mx_da t_X4_refuseTooDeep 17 rfl) rfl rfl ?_
        refine mx_istore_n 1 [.ref 2, .int 0] (mx_da t_X4_refuseTooDeep 18 rfl) rfl rfl (by decide) rfl ?_
        refine mx_aload_n 0 (mx_da t_X4_refuseTooDeep 19 rfl) rfl rfl rfl rfl ?_
        refine mx_iload_n 1 (mx_da t_X4_refuseTooDeep 20 rfl) rfl rfl rfl ?_
        refine mx_if_eq 49 (mx_da t_X4_refuseTooDeep 21 rfl) rfl rfl (fun g9 => ?_) (fun g9 => absurd g9 (by decide))
        refine mx_iconst (v := 1) (mx_da t_X4_refuseTooDeep 24 rfl) rfl rfl ?_
        refine mx_callV yX4_refuse m_X4_refuse [.int 1] mm_X4_refuse ml_RX4_73 im_X4_refuse se_X4_refuse (tp_s T 2 rfl) rfl rfl (Nat.le_of_ble_eq_true rfl) (mx_da t_X4_refuseTooDeep 25 rfl) rfl (Nat.le_of_ble_eq_true rfl) rfl ?_
        refine mx_mono h ?_
        intro o M7 ho
        obtain ⟨e1, e2, ho⟩ := ho
        obtain ⟨x8, rfl, h⟩ := ho
        refine ⟨e1, ?_⟩
        have T := tp_of e1 e2 T
        have hu0 := (congrFun (congrFun e2 2) 2).trans hu0
        clear e1 e2
        show mx_W m_X4_refuseTooDeep (d + 1) 53 [.ref 2, .int 0] [.int (mx_b x8)] M7 Q
        exact mx_zret rfl (mx_bz _) (mx_da t_X4_refuseTooDeep 26 rfl) h
      · have h := h.2 (mx_bn.mp g9)
        refine mx_iconst (v := 1) (mx_da t_X4_refuseTooDeep 15 rfl) rfl rfl ?_
        refine mx_goto (n := 39) (mx_da t_X4_refuseTooDeep 16 rfl) rfl ?_
        refine mx_istore_n 1 [.ref 2, .int 1] (mx_da t_X4_refuseTooDeep 18 rfl) rfl rfl (by decide) rfl ?_
        refine mx_aload_n 0 (mx_da t_X4_refuseTooDeep 19 rfl) rfl rfl rfl rfl ?_
        refine mx_iload_n 1 (mx_da t_X4_refuseTooDeep 20 rfl) rfl rfl rfl ?_
        refine mx_if_eq 49 (mx_da t_X4_refuseTooDeep 21 rfl) rfl rfl (fun g9 => absurd g9 (by decide)) (fun g9 => ?_)
        refine mx_iconst (v := 2) (mx_da t_X4_refuseTooDeep 22 rfl) rfl rfl ?_
        refine mx_goto (n := 50) (mx_da t_X4_refuseTooDeep 23 rfl) rfl ?_
        refine mx_callV yX4_refuse m_X4_refuse [.int 2] mm_X4_refuse ml_RX4_73 im_X4_refuse se_X4_refuse (tp_s T 2 rfl) rfl rfl (Nat.le_of_ble_eq_true rfl) (mx_da t_X4_refuseTooDeep 25 rfl) rfl (Nat.le_of_ble_eq_true rfl) rfl ?_
        refine mx_mono h ?_
        intro o M9 ho
        obtain ⟨e1, e2, ho⟩ := ho
        obtain ⟨x10, rfl, h⟩ := ho
        refine ⟨e1, ?_⟩
        have T := tp_of e1 e2 T
        have hu0 := (congrFun (congrFun e2 2) 2).trans hu0
        clear e1 e2
        show mx_W m_X4_refuseTooDeep (d + 1) 53 [.ref 2, .int 1] [.int (mx_b x10)] M9 Q
        exact mx_zret rfl (mx_bz _) (mx_da t_X4_refuseTooDeep 26 rfl) h
set_option maxHeartbeats 1000000 in
theorem x_X4_takeAnd_0 {d : Nat} {M : mx_M} {Q : mx_O → mx_M → Prop} (T : mx_Tp M) (u : Nat) (hu : mx_Cat u) (hu0 : mx_R M 2 2 = u) (v1 : Int32)
    (h : (mx_W m_X4_takeNot d 0 [.ref 2, .int v1, .retAddr 0, .retAddr 0] [] M (fun o M1 => mx_sh M1 = mx_sh M ∧ mx_R M1 = mx_R M ∧ (∃ x2 : Bool, o = .inl (some (.int (mx_b x2))) ∧ ((x2 = true → mx_W m_X4_takeAnd (d + 1) 12 [.ref 2, .int v1, .int 0] [] M1 Q) ∧ (x2 = false → Q (.inl (some (.int (mx_b false)))) M1)))))) :
    mx_W m_X4_takeAnd (d + 1) 0 [.ref 2, .int v1, .retAddr 0] [] M Q := by
  refine mx_aload_n 0 (mx_da t_X4_takeAnd 0 rfl) rfl rfl rfl rfl ?_
  refine mx_iload_n 1 (mx_da t_X4_takeAnd 1 rfl) rfl rfl rfl ?_
  refine mx_callV yX4_takeNot m_X4_takeNot [.int v1] mm_X4_takeNot ml_RX4_189 im_X4_takeNot se_X4_takeNot (tp_s T 2 rfl) rfl rfl (Nat.le_of_ble_eq_true rfl) (mx_da t_X4_takeAnd 2 rfl) rfl (Nat.le_of_ble_eq_true rfl) rfl ?_
  refine mx_mono h ?_
  intro o M1 ho
  obtain ⟨e1, e2, ho⟩ := ho
  obtain ⟨x2, rfl, h⟩ := ho
  refine ⟨e1, ?_⟩
  have T := tp_of e1 e2 T
  have hu0 := (congrFun (congrFun e2 2) 2).trans hu0
  clear e1 e2
  show mx_W m_X4_takeAnd (d + 1) 5 [.ref 2, .int v1, .retAddr 0] [.int (mx_b x2)] M1 Q
  refine mx_if_ne 10 (mx_da t_X4_takeAnd 3 rfl) rfl rfl (fun g9 => ?_) (fun g9 => ?_)
  · have h := h.1 (mx_bn.mp g9)
    refine mx_iconst (v := 0) (mx_da t_X4_takeAnd 6 rfl) rfl rfl ?_
    refine mx_istore_n 2 [.ref 2, .int v1, .int 0] (mx_da t_X4_takeAnd 7 rfl) rfl rfl (by decide) rfl ?_
    exact h
  · have h := h.2 (mx_b0.mp g9)
    refine mx_iconst (v := 0) (mx_da t_X4_takeAnd 4 rfl) rfl rfl ?_
    exact mx_zret rfl rfl (mx_da t_X4_takeAnd 5 rfl) h
set_option maxHeartbeats 1000000 in
theorem x_X4_takeAnd_12 {d : Nat} {M : mx_M} {Q : mx_O → mx_M → Prop} (T : mx_Tp M) (u : Nat) (hu : mx_Cat u) (hu0 : mx_R M 2 2 = u) (v1 : Int32) (v2 : Int32)
    (h : (((700 : Int32) ≤ v2 → Q (.inl (some (.int (mx_b true)))) M) ∧ (¬ (700 : Int32) ≤ v2 → (mx_W m_X8_isWord d 0 [.ref 3, .retAddr 30, .retAddr 0] [] M (fun o M1 => mx_sh M1 = mx_sh M ∧ mx_R M1 = mx_R M ∧ (∃ x2 : Bool, o = .inl (some (.int (mx_b x2))) ∧ ((x2 = false → Q (.inl (some (.int (mx_b true)))) M1) ∧ (x2 = true → (mx_W m_X8_step d 0 [.ref 3, .retAddr 0] [] M1 (fun o M3 => mx_sh M3 = mx_sh M1 ∧ mx_R M3 = mx_R M1 ∧ (o = .inl none ∧ (mx_W m_X4_takeNot d 0 [.ref 2, .int v1, .retAddr 0, .retAddr 0] [] M3 (fun o M4 => mx_sh M4 = mx_sh M3 ∧ mx_R M4 = mx_R M3 ∧ (∃ x5 : Bool, o = .inl (some (.int (mx_b x5))) ∧ ((x5 = true → (mx_W m_X7_addStep d 0 [.ref 6, .int (-6)] [] M4 (fun o M6 => mx_sh M6 = mx_sh M4 ∧ mx_R M6 = mx_R M4 ∧ (o = .inl none ∧ mx_W m_X4_takeAnd (d + 1) 12 [.ref 2, .int v1, .int (v2 + 1)] [] M6 Q)))) ∧ (x5 = false → Q (.inl (some (.int (mx_b false)))) M4)))))))))))))))) :
    mx_W m_X4_takeAnd (d + 1) 12 [.ref 2, .int v1, .int v2] [] M Q := by
  refine mx_iload_n 2 (mx_da t_X4_takeAnd 8 rfl) rfl rfl rfl ?_
  refine mx_sipush (v := 700) (mx_da t_X4_takeAnd 9 rfl) rfl rfl ?_
  refine mx_icmp_ge 63 (mx_da t_X4_takeAnd 10 rfl) rfl rfl (fun g9 => ?_) (fun g9 => ?_)
  · have h := h.1 g9
    refine mx_iconst (v := 1) (mx_da t_X4_takeAnd 31 rfl) rfl rfl ?_
    exact mx_zret rfl rfl (mx_da t_X4_takeAnd 32 rfl) h
  · have h := h.2 g9
    refine mx_aload_n 0 (mx_da t_X4_takeAnd 11 rfl) rfl rfl rfl rfl ?_
    refine mx_getR 3 fs_RX4_12 rfl (tp_s T 2 rfl) (tp_r T 2 rfl) (mx_da t_X4_takeAnd 12 rfl) rfl ?_
    refine mx_ldcS 14 (by decide) rfl (mx_da t_X4_takeAnd 13 rfl) rfl ?_
    refine mx_callV yX8_isWord m_X8_isWord [.retAddr 30] mm_X8_isWord ml_RX4_79 im_X8_isWord se_X8_isWord (tp_s T 3 rfl) rfl rfl (Nat.le_of_ble_eq_true rfl) (mx_da t_X4_takeAnd 14 rfl) rfl (Nat.le_of_ble_eq_true rfl) rfl ?_
    refine mx_mono h ?_
    intro o M1 ho
    obtain ⟨e1, e2, ho⟩ := ho
    obtain ⟨x2, rfl, h⟩ := ho
    refine ⟨e1, ?_⟩
    have T := tp_of e1 e2 T
    have hu0 := (congrFun (congrFun e2 2) 2).trans hu0
    clear e1 e2
    show mx_W m_X4_takeAnd (d + 1) 28 [.ref 2, .int v1, .int v2] [.int (mx_b x2)] M1 Q
    refine mx_if_eq 63 (mx_da t_X4_takeAnd 15 rfl) rfl rfl (fun g9 => ?_) (fun g9 => ?_)
    · have h := h.1 (mx_b0.mp g9)
      refine mx_iconst (v := 1) (mx_da t_X4_takeAnd 31 rfl) rfl rfl ?_
      exact mx_zret rfl rfl (mx_da t_X4_takeAnd 32 rfl) h
    · have h := h.2 (mx_bn.mp g9)
      refine mx_aload_n 0 (mx_da t_X4_takeAnd 16 rfl) rfl rfl rfl rfl ?_
      refine mx_getR 3 fs_RX4_12 rfl (tp_s T 2 rfl) (tp_r T 2 rfl) (mx_da t_X4_takeAnd 17 rfl) rfl ?_
      refine mx_callV yX8_step m_X8_step [] mm_X8_step ml_RX4_70 im_X8_step se_X8_step (tp_s T 3 rfl) rfl rfl (Nat.le_of_ble_eq_true rfl) (mx_da t_X4_takeAnd 18 rfl) rfl (Nat.le_of_ble_eq_true rfl) rfl ?_
      refine mx_mono h ?_
      intro o M3 ho
      obtain ⟨e1, e2, ho⟩ := ho
      obtain ⟨rfl, h⟩ := ho
      refine ⟨e1, ?_⟩
      have T := tp_of e1 e2 T
      have hu0 := (congrFun (congrFun e2 2) 2).trans hu0
      clear e1 e2
      show mx_W m_X4_takeAnd (d + 1) 38 [.ref 2, .int v1, .int v2] [] M3 Q
      refine mx_aload_n 0 (mx_da t_X4_takeAnd 19 rfl) rfl rfl rfl rfl ?_
      refine mx_iload_n 1 (mx_da t_X4_takeAnd 20 rfl) rfl rfl rfl ?_
      refine mx_callV yX4_takeNot m_X4_takeNot [.int v1] mm_X4_takeNot ml_RX4_189 im_X4_takeNot se_X4_takeNot (tp_s T 2 rfl) rfl rfl (Nat.le_of_ble_eq_true rfl) (mx_da t_X4_takeAnd 21 rfl) rfl (Nat.le_of_ble_eq_true rfl) rfl ?_
      refine mx_mono h ?_
      intro o M4 ho
      obtain ⟨e1, e2, ho⟩ := ho
      obtain ⟨x5, rfl, h⟩ := ho
      refine ⟨e1, ?_⟩
      have T := tp_of e1 e2 T
      have hu0 := (congrFun (congrFun e2 2) 2).trans hu0
      clear e1 e2
      show mx_W m_X4_takeAnd (d + 1) 43 [.ref 2, .int v1, .int v2] [.int (mx_b x5)] M4 Q
      refine mx_if_ne 48 (mx_da t_X4_takeAnd 22 rfl) rfl rfl (fun g9 => ?_) (fun g9 => ?_)
      · have h := h.1 (mx_bn.mp g9)
        refine mx_aload_n 0 (mx_da t_X4_takeAnd 25 rfl) rfl rfl rfl rfl ?_
        refine mx_getR 6 fs_RX4_21 rfl (tp_s T 2 rfl) (tp_r T 7 rfl) (mx_da t_X4_takeAnd 26 rfl) rfl ?_
        refine mx_bipush (v := (-6)) (mx_da t_X4_takeAnd 27 rfl) rfl rfl ?_
        refine mx_callV yX7_addStep m_X7_addStep [.int (-6)] mm_X7_addStep ml_RX4_186 im_X7_addStep se_X7_addStep (tp_s T 6 rfl) rfl rfl (Nat.le_of_ble_eq_true rfl) (mx_da t_X4_takeAnd 28 rfl) rfl (Nat.le_of_ble_eq_true rfl) rfl ?_
        refine mx_mono h ?_
        intro o M6 ho
        obtain ⟨e1, e2, ho⟩ := ho
        obtain ⟨rfl, h⟩ := ho
        refine ⟨e1, ?_⟩
        have T := tp_of e1 e2 T
        have hu0 := (congrFun (congrFun e2 2) 2).trans hu0
        clear e1 e2
        show mx_W m_X4_takeAnd (d + 1) 57 [.ref 2, .int v1, .int v2] [] M6 Q
        refine mx_iinc 2 (v := v2 + 1) [.ref 2, .int v1, .int (v2 + 1)] (mx_da t_X4_takeAnd 29 rfl) rfl (by decide) rfl rfl rfl ?_
        refine mx_goto (n := 12) (mx_da t_X4_takeAnd 30 rfl) rfl ?_
        exact h
      · have h := h.2 (mx_b0.mp g9)
        refine mx_iconst (v := 0) (mx_da t_X4_takeAnd 23 rfl) rfl rfl ?_
        exact mx_zret rfl rfl (mx_da t_X4_takeAnd 24 rfl) h
set_option maxHeartbeats 1000000 in
theorem x_X4_takeNot_0 {d : Nat} {M : mx_M} {Q : mx_O → mx_M → Prop} (T : mx_Tp M) (u : Nat) (hu : mx_Cat u) (hu0 : mx_R M 2 2 = u) (v1 : Int32)
    (h : mx_W m_X4_takeNot (d + 1) 4 [.ref 2, .int v1, .int 0, .int 0] [] M Q) :
    mx_W m_X4_takeNot (d + 1) 0 [.ref 2, .int v1, .retAddr 0, .retAddr 0] [] M Q := by
  refine mx_iconst (v := 0) (mx_da t_X4_takeNot 0 rfl) rfl rfl ?_
  refine mx_istore_n 2 [.ref 2, .int v1, .int 0, .retAddr 0] (mx_da t_X4_takeNot 1 rfl) rfl rfl (by decide) rfl ?_
  refine mx_iconst (v := 0) (mx_da t_X4_takeNot 2 rfl) rfl rfl ?_
  refine mx_istore_n 3 [.ref 2, .int v1, .int 0, .int 0] (mx_da t_X4_takeNot 3 rfl) rfl rfl (by decide) rfl ?_
  exact h
set_option maxHeartbeats 1000000 in
theorem x_X4_takeNot_4 {d : Nat} {M : mx_M} {Q : mx_O → mx_M → Prop} (T : mx_Tp M) (u : Nat) (hu : mx_Cat u) (hu0 : mx_R M 2 2 = u) (v1 : Int32) (v2 : Int32) (v3 : Int32)
    (h : (((6 : Int32) ≤ v3 → ((¬ v2 = (6 : Int32) → (mx_W m_X4_takeTest d 0 [.ref 2, .int v1, .retAddr 0] [] M (fun o M1 => mx_sh M1 = mx_sh M ∧ mx_R M1 = mx_R M ∧ (∃ x2 : Bool, o = .inl (some (.int (mx_b x2))) ∧ ((x2 = true → mx_W m_X4_takeNot (d + 1) 74 [.ref 2, .retAddr 0, .int v2, .int 0] [] M1 Q) ∧ (x2 = false → Q (.inl (some (.int (mx_b false)))) M1)))))) ∧ (v2 = (6 : Int32) → (mx_W m_X8_isWord d 0 [.ref 3, .retAddr 20, .retAddr 0] [] M (fun o M3 => mx_sh M3 = mx_sh M ∧ mx_R M3 = mx_R M ∧ (∃ x4 : Bool, o = .inl (some (.int (mx_b x4))) ∧ ((x4 = false → (mx_W m_X4_takeTest d 0 [.ref 2, .int v1, .retAddr 0] [] M3 (fun o M5 => mx_sh M5 = mx_sh M3 ∧ mx_R M5 = mx_R M3 ∧ (∃ x6 : Bool, o = .inl (some (.int (mx_b x6))) ∧ ((x6 = true → mx_W m_X4_takeNot (d + 1) 74 [.ref 2, .retAddr 0, .int v2, .int 0] [] M5 Q) ∧ (x6 = false → Q (.inl (some (.int (mx_b false)))) M5)))))) ∧ (x4 = true → (mx_W m_X4_refuse d 0 [.ref 2, .int 2] [] M3 (fun o M7 => mx_sh M7 = mx_sh M3 ∧ mx_R M7 = mx_R M3 ∧ (∃ x8 : Bool, o = .inl (some (.int (mx_b x8))) ∧ Q (.inl (some (.int (mx_b x8)))) M7))))))))))) ∧ (¬ (6 : Int32) ≤ v3 → (mx_W m_X8_isWord d 0 [.ref 3, .retAddr 20, .retAddr 0] [] M (fun o M9 => mx_sh M9 = mx_sh M ∧ mx_R M9 = mx_R M ∧ (∃ x10 : Bool, o = .inl (some (.int (mx_b x10))) ∧ ((x10 = false → ((¬ v2 = (6 : Int32) → (mx_W m_X4_takeTest d 0 [.ref 2, .int v1, .retAddr 0] [] M9 (fun o M11 => mx_sh M11 = mx_sh M9 ∧ mx_R M11 = mx_R M9 ∧ (∃ x12 : Bool, o = .inl (some (.int (mx_b x12))) ∧ ((x12 = true → mx_W m_X4_takeNot (d + 1) 74 [.ref 2, .retAddr 0, .int v2, .int 0] [] M11 Q) ∧ (x12 = false → Q (.inl (some (.int (mx_b false)))) M11)))))) ∧ (v2 = (6 : Int32) → (mx_W m_X8_isWord d 0 [.ref 3, .retAddr 20, .retAddr 0] [] M9 (fun o M13 => mx_sh M13 = mx_sh M9 ∧ mx_R M13 = mx_R M9 ∧ (∃ x14 : Bool, o = .inl (some (.int (mx_b x14))) ∧ ((x14 = false → (mx_W m_X4_takeTest d 0 [.ref 2, .int v1, .retAddr 0] [] M13 (fun o M15 => mx_sh M15 = mx_sh M13 ∧ mx_R M15 = mx_R M13 ∧ (∃ x16 : Bool, o = .inl (some (.int (mx_b x16))) ∧ ((x16 = true → mx_W m_X4_takeNot (d + 1) 74 [.ref 2, .retAddr 0, .int v2, .int 0] [] M15 Q) ∧ (x16 = false → Q (.inl (some (.int (mx_b false)))) M15)))))) ∧ (x14 = true → (mx_W m_X4_refuse d 0 [.ref 2, .int 2] [] M13 (fun o M17 => mx_sh M17 = mx_sh M13 ∧ mx_R M17 = mx_R M13 ∧ (∃ x18 : Bool, o = .inl (some (.int (mx_b x18))) ∧ Q (.inl (some (.int (mx_b x18)))) M17))))))))))) ∧ (x10 = true → (mx_W m_X8_step d 0 [.ref 3, .retAddr 0] [] M9 (fun o M19 => mx_sh M19 = mx_sh M9 ∧ mx_R M19 = mx_R M9 ∧ (o = .inl none ∧ mx_W m_X4_takeNot (d + 1) 4 [.ref 2, .int v1, .int (v2 + 1), .int (v3 + 1)] [] M19 Q))))))))))) :
    mx_W m_X4_takeNot (d + 1) 4 [.ref 2, .int v1, .int v2, .int v3] [] M Q := by
  refine mx_iload_n 3 (mx_da t_X4_takeNot 4 rfl) rfl rfl rfl ?_
  refine mx_bipush (v := 6) (mx_da t_X4_takeNot 5 rfl) rfl rfl ?_
  refine mx_icmp_ge 38 (mx_da t_X4_takeNot 6 rfl) rfl rfl (fun g9 => ?_) (fun g9 => ?_)
  · have h := h.1 g9
    refine mx_iload_n 2 (mx_da t_X4_takeNot 18 rfl) rfl rfl rfl ?_
    refine mx_bipush (v := 6) (mx_da t_X4_takeNot 19 rfl) rfl rfl ?_
    refine mx_icmp_ne 62 (mx_da t_X4_takeNot 20 rfl) rfl rfl (fun g9 => ?_) (fun g9 => ?_)
    · have h := h.1 g9
      refine mx_aload_n 0 (mx_da t_X4_takeNot 30 rfl) rfl rfl rfl rfl ?_
      refine mx_iload_n 1 (mx_da t_X4_takeNot 31 rfl) rfl rfl rfl ?_
      refine mx_callV yX4_takeTest m_X4_takeTest [.int v1] mm_X4_takeTest ml_RX4_196 im_X4_takeTest se_X4_takeTest (tp_s T 2 rfl) rfl rfl (Nat.le_of_ble_eq_true rfl) (mx_da t_X4_takeNot 32 rfl) rfl (Nat.le_of_ble_eq_true rfl) rfl ?_
      refine mx_mono h ?_
      intro o M1 ho
      obtain ⟨e1, e2, ho⟩ := ho
      obtain ⟨x2, rfl, h⟩ := ho
      refine ⟨e1, ?_⟩
      have T := tp_of e1 e2 T
      have hu0 := (congrFun (congrFun e2 2) 2).trans hu0
      clear e1 e2
      show mx_W m_X4_takeNot (d + 1) 67 [.ref 2, .int v1, .int v2, .int v3] [.int (mx_b x2)] M1 Q
      refine mx_if_ne 72 (mx_da t_X4_takeNot 33 rfl) rfl rfl (fun g9 => ?_) (fun g9 => ?_)
      · have h := h.1 (mx_bn.mp g9)
        refine mx_iconst (v := 0) (mx_da t_X4_takeNot 36 rfl) rfl rfl ?_
        refine mx_istore_n 3 [.ref 2, .int v1, .int v2, .int 0] (mx_da t_X4_takeNot 37 rfl) rfl rfl (by decide) rfl ?_
        exact mx_wkn [.ref 2, .retAddr 0, .int v2, .int 0] ⟨Or.inr rfl, Or.inl rfl, Or.inr rfl, Or.inr rfl, trivial⟩ h
      · have h := h.2 (mx_b0.mp g9)
        refine mx_iconst (v := 0) (mx_da t_X4_takeNot 34 rfl) rfl rfl ?_
        exact mx_zret rfl rfl (mx_da t_X4_takeNot 35 rfl) h
    · have h := h.2 g9
      refine mx_aload_n 0 (mx_da t_X4_takeNot 21 rfl) rfl rfl rfl rfl ?_
      refine mx_getR 3 fs_RX4_12 rfl (tp_s T 2 rfl) (tp_r T 2 rfl) (mx_da t_X4_takeNot 22 rfl) rfl ?_
      refine mx_ldcS 9 (by decide) rfl (mx_da t_X4_takeNot 23 rfl) rfl ?_
      refine mx_callV yX8_isWord m_X8_isWord [.retAddr 20] mm_X8_isWord ml_RX4_79 im_X8_isWord se_X8_isWord (tp_s T 3 rfl) rfl rfl (Nat.le_of_ble_eq_true rfl) (mx_da t_X4_takeNot 24 rfl) rfl (Nat.le_of_ble_eq_true rfl) rfl ?_
      refine mx_mono h ?_
      intro o M3 ho
      obtain ⟨e1, e2, ho⟩ := ho
      obtain ⟨x4, rfl, h⟩ := ho
      refine ⟨e1, ?_⟩
      have T := tp_of e1 e2 T
      have hu0 := (congrFun (congrFun e2 2) 2).trans hu0
      clear e1 e2
      show mx_W m_X4_takeNot (d + 1) 53 [.ref 2, .int v1, .int v2, .int v3] [.int (mx_b x4)] M3 Q
      refine mx_if_eq 62 (mx_da t_X4_takeNot 25 rfl) rfl rfl (fun g9 => ?_) (fun g9 => ?_)
      · have h := h.1 (mx_b0.mp g9)
        refine mx_aload_n 0 (mx_da t_X4_takeNot 30 rfl) rfl rfl rfl rfl ?_
        refine mx_iload_n 1 (mx_da t_X4_takeNot 31 rfl) rfl rfl rfl ?_
        refine mx_callV yX4_takeTest m_X4_takeTest [.int v1] mm_X4_takeTest ml_RX4_196 im_X4_takeTest se_X4_takeTest (tp_s T 2 rfl) rfl rfl (Nat.le_of_ble_eq_true rfl) (mx_da t_X4_takeNot 32 rfl) rfl (Nat.le_of_ble_eq_true rfl) rfl ?_
        refine mx_mono h ?_
        intro o M5 ho
        obtain ⟨e1, e2, ho⟩ := ho
        obtain ⟨x6, rfl, h⟩ := ho
        refine ⟨e1, ?_⟩
        have T := tp_of e1 e2 T
        have hu0 := (congrFun (congrFun e2 2) 2).trans hu0
        clear e1 e2
        show mx_W m_X4_takeNot (d + 1) 67 [.ref 2, .int v1, .int v2, .int v3] [.int (mx_b x6)] M5 Q
        refine mx_if_ne 72 (mx_da t_X4_takeNot 33 rfl) rfl rfl (fun g9 => ?_) (fun g9 => ?_)
        · have h := h.1 (mx_bn.mp g9)
          refine mx_iconst (v := 0) (mx_da t_X4_takeNot 36 rfl) rfl rfl ?_
          refine mx_istore_n 3 [.ref 2, .int v1, .int v2, .int 0] (mx_da t_X4_takeNot 37 rfl) rfl rfl (by decide) rfl ?_
          exact mx_wkn [.ref 2, .retAddr 0, .int v2, .int 0] ⟨Or.inr rfl, Or.inl rfl, Or.inr rfl, Or.inr rfl, trivial⟩ h
        · have h := h.2 (mx_b0.mp g9)
          refine mx_iconst (v := 0) (mx_da t_X4_takeNot 34 rfl) rfl rfl ?_
          exact mx_zret rfl rfl (mx_da t_X4_takeNot 35 rfl) h
      · have h := h.2 (mx_bn.mp g9)
        refine mx_aload_n 0 (mx_da t_X4_takeNot 26 rfl) rfl rfl rfl rfl ?_
        refine mx_iconst (v := 2) (mx_da t_X4_takeNot 27 rfl) rfl rfl ?_
        refine mx_callV yX4_refuse m_X4_refuse [.int 2] mm_X4_refuse ml_RX4_73 im_X4_refuse se_X4_refuse (tp_s T 2 rfl) rfl rfl (Nat.le_of_ble_eq_true rfl) (mx_da t_X4_takeNot 28 rfl) rfl (Nat.le_of_ble_eq_true rfl) rfl ?_
        refine mx_mono h ?_
        intro o M7 ho
        obtain ⟨e1, e2, ho⟩ := ho
        obtain ⟨x8, rfl, h⟩ := ho
        refine ⟨e1, ?_⟩
        have T := tp_of e1 e2 T
        have hu0 := (congrFun (congrFun e2 2) 2).trans hu0
        clear e1 e2
        show mx_W m_X4_takeNot (d + 1) 61 [.ref 2, .int v1, .int v2, .int v3] [.int (mx_b x8)] M7 Q
        exact mx_zret rfl (mx_bz _) (mx_da t_X4_takeNot 29 rfl) h
  · have h := h.2 g9
    refine mx_aload_n 0 (mx_da t_X4_takeNot 7 rfl) rfl rfl rfl rfl ?_
    refine mx_getR 3 fs_RX4_12 rfl (tp_s T 2 rfl) (tp_r T 2 rfl) (mx_da t_X4_takeNot 8 rfl) rfl ?_
    refine mx_ldcS 9 (by decide) rfl (mx_da t_X4_takeNot 9 rfl) rfl ?_
    refine mx_callV yX8_isWord m_X8_isWord [.retAddr 20] mm_X8_isWord ml_RX4_79 im_X8_isWord se_X8_isWord (tp_s T 3 rfl) rfl rfl (Nat.le_of_ble_eq_true rfl) (mx_da t_X4_takeNot 10 rfl) rfl (Nat.le_of_ble_eq_true rfl) rfl ?_
    refine mx_mono h ?_
    intro o M9 ho
    obtain ⟨e1, e2, ho⟩ := ho
    obtain ⟨x10, rfl, h⟩ := ho
    refine ⟨e1, ?_⟩
    have T := tp_of e1 e2 T
    have hu0 := (congrFun (congrFun e2 2) 2).trans hu0
    clear e1 e2
    show mx_W m_X4_takeNot (d + 1) 19 [.ref 2, .int v1, .int v2, .int v3] [.int (mx_b x10)] M9 Q
    refine mx_if_eq 38 (mx_da t_X4_takeNot 11 rfl) rfl rfl (fun g9 => ?_) (fun g9 => ?_)
    · have h := h.1 (mx_b0.mp g9)
      refine mx_iload_n 2 (mx_da t_X4_takeNot 18 rfl) rfl rfl rfl ?_
      refine mx_bipush (v := 6) (mx_da t_X4_takeNot 19 rfl) rfl rfl ?_
      refine mx_icmp_ne 62 (mx_da t_X4_takeNot 20 rfl) rfl rfl (fun g9 => ?_) (fun g9 => ?_)
      · have h := h.1 g9
        refine mx_aload_n 0 (mx_da t_X4_takeNot 30 rfl) rfl rfl rfl rfl ?_
        refine mx_iload_n 1 (mx_da t_X4_takeNot 31 rfl) rfl rfl rfl ?_
        refine mx_callV yX4_takeTest m_X4_takeTest [.int v1] mm_X4_takeTest ml_RX4_196 im_X4_takeTest se_X4_takeTest (tp_s T 2 rfl) rfl rfl (Nat.le_of_ble_eq_true rfl) (mx_da t_X4_takeNot 32 rfl) rfl (Nat.le_of_ble_eq_true rfl) rfl ?_
        refine mx_mono h ?_
        intro o M11 ho
        obtain ⟨e1, e2, ho⟩ := ho
        obtain ⟨x12, rfl, h⟩ := ho
        refine ⟨e1, ?_⟩
        have T := tp_of e1 e2 T
        have hu0 := (congrFun (congrFun e2 2) 2).trans hu0
        clear e1 e2
        show mx_W m_X4_takeNot (d + 1) 67 [.ref 2, .int v1, .int v2, .int v3] [.int (mx_b x12)] M11 Q
        refine mx_if_ne 72 (mx_da t_X4_takeNot 33 rfl) rfl rfl (fun g9 => ?_) (fun g9 => ?_)
        · have h := h.1 (mx_bn.mp g9)
          refine mx_iconst (v := 0) (mx_da t_X4_takeNot 36 rfl) rfl rfl ?_
          refine mx_istore_n 3 [.ref 2, .int v1, .int v2, .int 0] (mx_da t_X4_takeNot 37 rfl) rfl rfl (by decide) rfl ?_
          exact mx_wkn [.ref 2, .retAddr 0, .int v2, .int 0] ⟨Or.inr rfl, Or.inl rfl, Or.inr rfl, Or.inr rfl, trivial⟩ h
        · have h := h.2 (mx_b0.mp g9)
          refine mx_iconst (v := 0) (mx_da t_X4_takeNot 34 rfl) rfl rfl ?_
          exact mx_zret rfl rfl (mx_da t_X4_takeNot 35 rfl) h
      · have h := h.2 g9
        refine mx_aload_n 0 (mx_da t_X4_takeNot 21 rfl) rfl rfl rfl rfl ?_
        refine mx_getR 3 fs_RX4_12 rfl (tp_s T 2 rfl) (tp_r T 2 rfl) (mx_da t_X4_takeNot 22 rfl) rfl ?_
        refine mx_ldcS 9 (by decide) rfl (mx_da t_X4_takeNot 23 rfl) rfl ?_
        refine mx_callV yX8_isWord m_X8_isWord [.retAddr 20] mm_X8_isWord ml_RX4_79 im_X8_isWord se_X8_isWord (tp_s T 3 rfl) rfl rfl (Nat.le_of_ble_eq_true rfl) (mx_da t_X4_takeNot 24 rfl) rfl (Nat.le_of_ble_eq_true rfl) rfl ?_
        refine mx_mono h ?_
        intro o M13 ho
        obtain ⟨e1, e2, ho⟩ := ho
        obtain ⟨x14, rfl, h⟩ := ho
        refine ⟨e1, ?_⟩
        have T := tp_of e1 e2 T
        have hu0 := (congrFun (congrFun e2 2) 2).trans hu0
        clear e1 e2
        show mx_W m_X4_takeNot (d + 1) 53 [.ref 2, .int v1, .int v2, .int v3] [.int (mx_b x14)] M13 Q
        refine mx_if_eq 62 (mx_da t_X4_takeNot 25 rfl) rfl rfl (fun g9 => ?_) (fun g9 => ?_)
        · have h := h.1 (mx_b0.mp g9)
          refine mx_aload_n 0 (mx_da t_X4_takeNot 30 rfl) rfl rfl rfl rfl ?_
          refine mx_iload_n 1 (mx_da t_X4_takeNot 31 rfl) rfl rfl rfl ?_
          refine mx_callV yX4_takeTest m_X4_takeTest [.int v1] mm_X4_takeTest ml_RX4_196 im_X4_takeTest se_X4_takeTest (tp_s T 2 rfl) rfl rfl (Nat.le_of_ble_eq_true rfl) (mx_da t_X4_takeNot 32 rfl) rfl (Nat.le_of_ble_eq_true rfl) rfl ?_
          refine mx_mono h ?_
          intro o M15 ho
          obtain ⟨e1, e2, ho⟩ := ho
          obtain ⟨x16, rfl, h⟩ := ho
          refine ⟨e1, ?_⟩
          have T := tp_of e1 e2 T
          have hu0 := (congrFun (congrFun e2 2) 2).trans hu0
          clear e1 e2
          show mx_W m_X4_takeNot (d + 1) 67 [.ref 2, .int v1, .int v2, .int v3] [.int (mx_b x16)] M15 Q
          refine mx_if_ne 72 (mx_da t_X4_takeNot 33 rfl) rfl rfl (fun g9 => ?_) (fun g9 => ?_)
          · have h := h.1 (mx_bn.mp g9)
            refine mx_iconst (v := 0) (mx_da t_X4_takeNot 36 rfl) rfl rfl ?_
            refine mx_istore_n 3 [.ref 2, .int v1, .int v2, .int 0] (mx_da t_X4_takeNot 37 rfl) rfl rfl (by decide) rfl ?_
            exact mx_wkn [.ref 2, .retAddr 0, .int v2, .int 0] ⟨Or.inr rfl, Or.inl rfl, Or.inr rfl, Or.inr rfl, trivial⟩ h
          · have h := h.2 (mx_b0.mp g9)
            refine mx_iconst (v := 0) (mx_da t_X4_takeNot 34 rfl) rfl rfl ?_
            exact mx_zret rfl rfl (mx_da t_X4_takeNot 35 rfl) h
        · have h := h.2 (mx_bn.mp g9)
          refine mx_aload_n 0 (mx_da t_X4_takeNot 26 rfl) rfl rfl rfl rfl ?_
          refine mx_iconst (v := 2) (mx_da t_X4_takeNot 27 rfl) rfl rfl ?_
          refine mx_callV yX4_refuse m_X4_refuse [.int 2] mm_X4_refuse ml_RX4_73 im_X4_refuse se_X4_refuse (tp_s T 2 rfl) rfl rfl (Nat.le_of_ble_eq_true rfl) (mx_da t_X4_takeNot 28 rfl) rfl (Nat.le_of_ble_eq_true rfl) rfl ?_
          refine mx_mono h ?_
          intro o M17 ho
          obtain ⟨e1, e2, ho⟩ := ho
          obtain ⟨x18, rfl, h⟩ := ho
          refine ⟨e1, ?_⟩
          have T := tp_of e1 e2 T
          have hu0 := (congrFun (congrFun e2 2) 2).trans hu0
          clear e1 e2
          show mx_W m_X4_takeNot (d + 1) 61 [.ref 2, .int v1, .int v2, .int v3] [.int (mx_b x18)] M17 Q
          exact mx_zret rfl (mx_bz _) (mx_da t_X4_takeNot 29 rfl) h
    · have h := h.2 (mx_bn.mp g9)
      refine mx_aload_n 0 (mx_da t_X4_takeNot 12 rfl) rfl rfl rfl rfl ?_
      refine mx_getR 3 fs_RX4_12 rfl (tp_s T 2 rfl) (tp_r T 2 rfl) (mx_da t_X4_takeNot 13 rfl) rfl ?_
      refine mx_callV yX8_step m_X8_step [] mm_X8_step ml_RX4_70 im_X8_step se_X8_step (tp_s T 3 rfl) rfl rfl (Nat.le_of_ble_eq_true rfl) (mx_da t_X4_takeNot 14 rfl) rfl (Nat.le_of_ble_eq_true rfl) rfl ?_
      refine mx_mono h ?_
      intro o M19 ho
      obtain ⟨e1, e2, ho⟩ := ho
      obtain ⟨rfl, h⟩ := ho
      refine ⟨e1, ?_⟩
      have T := tp_of e1 e2 T
      have hu0 := (congrFun (congrFun e2 2) 2).trans hu0
      clear e1 e2
      show mx_W m_X4_takeNot (d + 1) 29 [.ref 2, .int v1, .int v2, .int v3] [] M19 Q
      refine mx_iinc 2 (v := v2 + 1) [.ref 2, .int v1, .int (v2 + 1), .int v3] (mx_da t_X4_takeNot 15 rfl) rfl (by decide) rfl rfl rfl ?_
      refine mx_iinc 3 (v := v3 + 1) [.ref 2, .int v1, .int (v2 + 1), .int (v3 + 1)] (mx_da t_X4_takeNot 16 rfl) rfl (by decide) rfl rfl rfl ?_
      refine mx_goto (n := 4) (mx_da t_X4_takeNot 17 rfl) rfl ?_
      exact h
set_option maxHeartbeats 1000000 in
theorem x_X4_takeNot_74 {d : Nat} {M : mx_M} {Q : mx_O → mx_M → Prop} (T : mx_Tp M) (u : Nat) (hu : mx_Cat u) (hu0 : mx_R M 2 2 = u) (v2 : Int32) (v3 : Int32)
    (h : ((v2 ≤ v3 → Q (.inl (some (.int (mx_b true)))) M) ∧ (¬ v2 ≤ v3 → (mx_W m_X7_addStep d 0 [.ref 6, .int (-5)] [] M (fun o M1 => mx_sh M1 = mx_sh M ∧ mx_R M1 = mx_R M ∧ (o = .inl none ∧ mx_W m_X4_takeNot (d + 1) 74 [.ref 2, .retAddr 0, .int v2, .int (v3 + 1)] [] M1 Q)))))) :
    mx_W m_X4_takeNot (d + 1) 74 [.ref 2, .retAddr 0, .int v2, .int v3] [] M Q := by
  refine mx_iload_n 3 (mx_da t_X4_takeNot 38 rfl) rfl rfl rfl ?_
  refine mx_iload_n 2 (mx_da t_X4_takeNot 39 rfl) rfl rfl rfl ?_
  refine mx_icmp_ge 94 (mx_da t_X4_takeNot 40 rfl) rfl rfl (fun g9 => ?_) (fun g9 => ?_)
  · have h := h.1 g9
    refine mx_iconst (v := 1) (mx_da t_X4_takeNot 47 rfl) rfl rfl ?_
    exact mx_zret rfl rfl (mx_da t_X4_takeNot 48 rfl) h
  · have h := h.2 g9
    refine mx_aload_n 0 (mx_da t_X4_takeNot 41 rfl) rfl rfl rfl rfl ?_
    refine mx_getR 6 fs_RX4_21 rfl (tp_s T 2 rfl) (tp_r T 7 rfl) (mx_da t_X4_takeNot 42 rfl) rfl ?_
    refine mx_bipush (v := (-5)) (mx_da t_X4_takeNot 43 rfl) rfl rfl ?_
    refine mx_callV yX7_addStep m_X7_addStep [.int (-5)] mm_X7_addStep ml_RX4_186 im_X7_addStep se_X7_addStep (tp_s T 6 rfl) rfl rfl (Nat.le_of_ble_eq_true rfl) (mx_da t_X4_takeNot 44 rfl) rfl (Nat.le_of_ble_eq_true rfl) rfl ?_
    refine mx_mono h ?_
    intro o M1 ho
    obtain ⟨e1, e2, ho⟩ := ho
    obtain ⟨rfl, h⟩ := ho
    refine ⟨e1, ?_⟩
    have T := tp_of e1 e2 T
    have hu0 := (congrFun (congrFun e2 2) 2).trans hu0
    clear e1 e2
    show mx_W m_X4_takeNot (d + 1) 88 [.ref 2, .retAddr 0, .int v2, .int v3] [] M1 Q
    refine mx_iinc 3 (v := v3 + 1) [.ref 2, .retAddr 0, .int v2, .int (v3 + 1)] (mx_da t_X4_takeNot 45 rfl) rfl (by decide) rfl rfl rfl ?_
    refine mx_goto (n := 74) (mx_da t_X4_takeNot 46 rfl) rfl ?_
    exact h
set_option maxHeartbeats 1000000 in
theorem x_X4_takeTest_0 {d : Nat} {M : mx_M} {Q : mx_O → mx_M → Prop} (T : mx_Tp M) (u : Nat) (hu : mx_Cat u) (hu0 : mx_R M 2 2 = u) (v1 : Int32)
    (h : (mx_W m_X4_takeSum d 0 [.ref 2, .int v1, .retAddr 0, .retAddr 0] [] M (fun o M1 => mx_sh M1 = mx_sh M ∧ mx_R M1 = mx_R M ∧ (∃ x2 : Bool, o = .inl (some (.int (mx_b x2))) ∧ ((x2 = true → (mx_W m_X8_isSign d 0 [.ref 3, .int 60] [] M1 (fun o M3 => mx_sh M3 = mx_sh M1 ∧ mx_R M3 = mx_R M1 ∧ (∃ x4 : Bool, o = .inl (some (.int (mx_b x4))) ∧ ((x4 = true → (mx_W m_X8_step d 0 [.ref 3, .retAddr 0] [] M3 (fun o M5 => mx_sh M5 = mx_sh M3 ∧ mx_R M5 = mx_R M3 ∧ (o = .inl none ∧ (mx_W m_X4_takeSum d 0 [.ref 2, .int v1, .retAddr 0, .retAddr 0] [] M5 (fun o M6 => mx_sh M6 = mx_sh M5 ∧ mx_R M6 = mx_R M5 ∧ (∃ x7 : Bool, o = .inl (some (.int (mx_b x7))) ∧ ((x7 = true → ((x4 = false → (mx_W m_X7_addStep d 0 [.ref 6, .int (-9)] [] M6 (fun o M8 => mx_sh M8 = mx_sh M6 ∧ mx_R M8 = mx_R M6 ∧ (o = .inl none ∧ Q (.inl (some (.int (mx_b true)))) M8)))) ∧ (x4 = true → (mx_W m_X7_addStep d 0 [.ref 6, .int (-8)] [] M6 (fun o M9 => mx_sh M9 = mx_sh M6 ∧ mx_R M9 = mx_R M6 ∧ (o = .inl none ∧ Q (.inl (some (.int (mx_b true)))) M9)))))) ∧ (x7 = false → Q (.inl (some (.int (mx_b false)))) M6))))))))) ∧ (x4 = false → (mx_W m_X8_isSign d 0 [.ref 3, .int 61] [] M3 (fun o M10 => mx_sh M10 = mx_sh M3 ∧ mx_R M10 = mx_R M3 ∧ (∃ x11 : Bool, o = .inl (some (.int (mx_b x11))) ∧ ((x11 = true → (mx_W m_X8_step d 0 [.ref 3, .retAddr 0] [] M10 (fun o M12 => mx_sh M12 = mx_sh M10 ∧ mx_R M12 = mx_R M10 ∧ (o = .inl none ∧ (mx_W m_X4_takeSum d 0 [.ref 2, .int v1, .retAddr 0, .retAddr 0] [] M12 (fun o M13 => mx_sh M13 = mx_sh M12 ∧ mx_R M13 = mx_R M12 ∧ (∃ x14 : Bool, o = .inl (some (.int (mx_b x14))) ∧ ((x14 = true → ((x4 = false → (mx_W m_X7_addStep d 0 [.ref 6, .int (-9)] [] M13 (fun o M15 => mx_sh M15 = mx_sh M13 ∧ mx_R M15 = mx_R M13 ∧ (o = .inl none ∧ Q (.inl (some (.int (mx_b true)))) M15)))) ∧ (x4 = true → (mx_W m_X7_addStep d 0 [.ref 6, .int (-8)] [] M13 (fun o M16 => mx_sh M16 = mx_sh M13 ∧ mx_R M16 = mx_R M13 ∧ (o = .inl none ∧ Q (.inl (some (.int (mx_b true)))) M16)))))) ∧ (x14 = false → Q (.inl (some (.int (mx_b false)))) M13))))))))) ∧ (x11 = false → Q (.inl (some (.int (mx_b true)))) M10))))))))))) ∧ (x2 = false → Q (.inl (some (.int (mx_b false)))) M1)))))) :
    mx_W m_X4_takeTest (d + 1) 0 [.ref 2, .int v1, .retAddr 0] [] M Q := by
  refine mx_aload_n 0 (mx_da t_X4_takeTest 0 rfl) rfl rfl rfl rfl ?_
  refine mx_iload_n 1 (mx_da t_X4_takeTest 1 rfl) rfl rfl rfl ?_
  refine mx_callV yX4_takeSum m_X4_takeSum [.int v1] mm_X4_takeSum ml_RX4_199 im_X4_takeSum se_X4_takeSum (tp_s T 2 rfl) rfl rfl (Nat.le_of_ble_eq_true rfl) (mx_da t_X4_takeTest 2 rfl) rfl (Nat.le_of_ble_eq_true rfl) rfl ?_
  refine mx_mono h ?_
  intro o M1 ho
  obtain ⟨e1, e2, ho⟩ := ho
  obtain ⟨x2, rfl, h⟩ := ho
  refine ⟨e1, ?_⟩
  have T := tp_of e1 e2 T
  have hu0 := (congrFun (congrFun e2 2) 2).trans hu0
  clear e1 e2
  show mx_W m_X4_takeTest (d + 1) 5 [.ref 2, .int v1, .retAddr 0] [.int (mx_b x2)] M1 Q
  refine mx_if_ne 10 (mx_da t_X4_takeTest 3 rfl) rfl rfl (fun g9 => ?_) (fun g9 => ?_)
  · have h := h.1 (mx_bn.mp g9)
    refine mx_aload_n 0 (mx_da t_X4_takeTest 6 rfl) rfl rfl rfl rfl ?_
    refine mx_getR 3 fs_RX4_12 rfl (tp_s T 2 rfl) (tp_r T 2 rfl) (mx_da t_X4_takeTest 7 rfl) rfl ?_
    refine mx_bipush (v := 60) (mx_da t_X4_takeTest 8 rfl) rfl rfl ?_
    refine mx_callV yX8_isSign m_X8_isSign [.int 60] mm_X8_isSign ml_RX4_66 im_X8_isSign se_X8_isSign (tp_s T 3 rfl) rfl rfl (Nat.le_of_ble_eq_true rfl) (mx_da t_X4_takeTest 9 rfl) rfl (Nat.le_of_ble_eq_true rfl) rfl ?_
    refine mx_mono h ?_
    intro o M3 ho
    obtain ⟨e1, e2, ho⟩ := ho
    obtain ⟨x4, rfl, h⟩ := ho
    refine ⟨e1, ?_⟩
    have T := tp_of e1 e2 T
    have hu0 := (congrFun (congrFun e2 2) 2).trans hu0
    clear e1 e2
    show mx_W m_X4_takeTest (d + 1) 19 [.ref 2, .int v1, .retAddr 0] [.int (mx_b x4)] M3 Q
    refine mx_istore_n 2 [.ref 2, .int v1, .int (mx_b x4)] (mx_da t_X4_takeTest 10 rfl) rfl rfl (by decide) rfl ?_
    refine mx_iload_n 2 (mx_da t_X4_takeTest 11 rfl) rfl rfl rfl ?_
    refine mx_if_ne 38 (mx_da t_X4_takeTest 12 rfl) rfl rfl (fun g9 => ?_) (fun g9 => ?_)
    · have h := h.1 (mx_bn.mp g9)
      refine mx_aload_n 0 (mx_da t_X4_takeTest 20 rfl) rfl rfl rfl rfl ?_
      refine mx_getR 3 fs_RX4_12 rfl (tp_s T 2 rfl) (tp_r T 2 rfl) (mx_da t_X4_takeTest 21 rfl) rfl ?_
      refine mx_callV yX8_step m_X8_step [] mm_X8_step ml_RX4_70 im_X8_step se_X8_step (tp_s T 3 rfl) rfl rfl (Nat.le_of_ble_eq_true rfl) (mx_da t_X4_takeTest 22 rfl) rfl (Nat.le_of_ble_eq_true rfl) rfl ?_
      refine mx_mono h ?_
      intro o M5 ho
      obtain ⟨e1, e2, ho⟩ := ho
      obtain ⟨rfl, h⟩ := ho
      refine ⟨e1, ?_⟩
      have T := tp_of e1 e2 T
      have hu0 := (congrFun (congrFun e2 2) 2).trans hu0
      clear e1 e2
      show mx_W m_X4_takeTest (d + 1) 45 [.ref 2, .int v1, .int (mx_b x4)] [] M5 Q
      refine mx_aload_n 0 (mx_da t_X4_takeTest 23 rfl) rfl rfl rfl rfl ?_
      refine mx_iload_n 1 (mx_da t_X4_takeTest 24 rfl) rfl rfl rfl ?_
      refine mx_callV yX4_takeSum m_X4_takeSum [.int v1] mm_X4_takeSum ml_RX4_199 im_X4_takeSum se_X4_takeSum (tp_s T 2 rfl) rfl rfl (Nat.le_of_ble_eq_true rfl) (mx_da t_X4_takeTest 25 rfl) rfl (Nat.le_of_ble_eq_true rfl) rfl ?_
      refine mx_mono h ?_
      intro o M6 ho
      obtain ⟨e1, e2, ho⟩ := ho
      obtain ⟨x7, rfl, h⟩ := ho
      refine ⟨e1, ?_⟩
      have T := tp_of e1 e2 T
      have hu0 := (congrFun (congrFun e2 2) 2).trans hu0
      clear e1 e2
      show mx_W m_X4_takeTest (d + 1) 50 [.ref 2, .int v1, .int (mx_b x4)] [.int (mx_b x7)] M6 Q
      refine mx_if_ne 55 (mx_da t_X4_takeTest 26 rfl) rfl rfl (fun g9 => ?_) (fun g9 => ?_)
      · have h := h.1 (mx_bn.mp g9)
        refine mx_aload_n 0 (mx_da t_X4_takeTest 29 rfl) rfl rfl rfl rfl ?_
        refine mx_getR 6 fs_RX4_21 rfl (tp_s T 2 rfl) (tp_r T 7 rfl) (mx_da t_X4_takeTest 30 rfl) rfl ?_
        refine mx_iload_n 2 (mx_da t_X4_takeTest 31 rfl) rfl rfl rfl ?_
        refine mx_if_eq 68 (mx_da t_X4_takeTest 32 rfl) rfl rfl (fun g9 => ?_) (fun g9 => ?_)
        · have h := h.1 (mx_b0.mp g9)
          refine mx_bipush (v := (-9)) (mx_da t_X4_takeTest 35 rfl) rfl rfl ?_
          refine mx_callV yX7_addStep m_X7_addStep [.int (-9)] mm_X7_addStep ml_RX4_186 im_X7_addStep se_X7_addStep (tp_s T 6 rfl) rfl rfl (Nat.le_of_ble_eq_true rfl) (mx_da t_X4_takeTest 36 rfl) rfl (Nat.le_of_ble_eq_true rfl) rfl ?_
          refine mx_mono h ?_
          intro o M8 ho
          obtain ⟨e1, e2, ho⟩ := ho
          obtain ⟨rfl, h⟩ := ho
          refine ⟨e1, ?_⟩
          have T := tp_of e1 e2 T
          have hu0 := (congrFun (congrFun e2 2) 2).trans hu0
          clear e1 e2
          show mx_W m_X4_takeTest (d + 1) 73 [.ref 2, .int v1, .int (mx_b x4)] [] M8 Q
          refine mx_iconst (v := 1) (mx_da t_X4_takeTest 37 rfl) rfl rfl ?_
          exact mx_zret rfl rfl (mx_da t_X4_takeTest 38 rfl) h
        · have h := h.2 (mx_bn.mp g9)
          refine mx_bipush (v := (-8)) (mx_da t_X4_takeTest 33 rfl) rfl rfl ?_
          refine mx_goto (n := 70) (mx_da t_X4_takeTest 34 rfl) rfl ?_
          refine mx_callV yX7_addStep m_X7_addStep [.int (-8)] mm_X7_addStep ml_RX4_186 im_X7_addStep se_X7_addStep (tp_s T 6 rfl) rfl rfl (Nat.le_of_ble_eq_true rfl) (mx_da t_X4_takeTest 36 rfl) rfl (Nat.le_of_ble_eq_true rfl) rfl ?_
          refine mx_mono h ?_
          intro o M9 ho
          obtain ⟨e1, e2, ho⟩ := ho
          obtain ⟨rfl, h⟩ := ho
          refine ⟨e1, ?_⟩
          have T := tp_of e1 e2 T
          have hu0 := (congrFun (congrFun e2 2) 2).trans hu0
          clear e1 e2
          show mx_W m_X4_takeTest (d + 1) 73 [.ref 2, .int v1, .int (mx_b x4)] [] M9 Q
          refine mx_iconst (v := 1) (mx_da t_X4_takeTest 37 rfl) rfl rfl ?_
          exact mx_zret rfl rfl (mx_da t_X4_takeTest 38 rfl) h
      · have h := h.2 (mx_b0.mp g9)
        refine mx_iconst (v := 0) (mx_da t_X4_takeTest 27 rfl) rfl rfl ?_
        exact mx_zret rfl rfl (mx_da t_X4_takeTest 28 rfl) h
    · have h := h.2 (mx_b0.mp g9)
      refine mx_aload_n 0 (mx_da t_X4_takeTest 13 rfl) rfl rfl rfl rfl ?_
      refine mx_getR 3 fs_RX4_12 rfl (tp_s T 2 rfl) (tp_r T 2 rfl) (mx_da t_X4_takeTest 14 rfl) rfl ?_
      refine mx_bipush (v := 61) (mx_da t_X4_takeTest 15 rfl) rfl rfl ?_
      refine mx_callV yX8_isSign m_X8_isSign [.int 61] mm_X8_isSign ml_RX4_66 im_X8_isSign se_X8_isSign (tp_s T 3 rfl) rfl rfl (Nat.le_of_ble_eq_true rfl) (mx_da t_X4_takeTest 16 rfl) rfl (Nat.le_of_ble_eq_true rfl) rfl ?_
      refine mx_mono h ?_
      intro o M10 ho
      obtain ⟨e1, e2, ho⟩ := ho
      obtain ⟨x11, rfl, h⟩ := ho
      refine ⟨e1, ?_⟩
      have T := tp_of e1 e2 T
      have hu0 := (congrFun (congrFun e2 2) 2).trans hu0
      clear e1 e2
      show mx_W m_X4_takeTest (d + 1) 33 [.ref 2, .int v1, .int (mx_b x4)] [.int (mx_b x11)] M10 Q
      refine mx_if_ne 38 (mx_da t_X4_takeTest 17 rfl) rfl rfl (fun g9 => ?_) (fun g9 => ?_)
      · have h := h.1 (mx_bn.mp g9)
        refine mx_aload_n 0 (mx_da t_X4_takeTest 20 rfl) rfl rfl rfl rfl ?_
        refine mx_getR 3 fs_RX4_12 rfl (tp_s T 2 rfl) (tp_r T 2 rfl) (mx_da t_X4_takeTest 21 rfl) rfl ?_
        refine mx_callV yX8_step m_X8_step [] mm_X8_step ml_RX4_70 im_X8_step se_X8_step (tp_s T 3 rfl) rfl rfl (Nat.le_of_ble_eq_true rfl) (mx_da t_X4_takeTest 22 rfl) rfl (Nat.le_of_ble_eq_true rfl) rfl ?_
        refine mx_mono h ?_
        intro o M12 ho
        obtain ⟨e1, e2, ho⟩ := ho
        obtain ⟨rfl, h⟩ := ho
        refine ⟨e1, ?_⟩
        have T := tp_of e1 e2 T
        have hu0 := (congrFun (congrFun e2 2) 2).trans hu0
        clear e1 e2
        show mx_W m_X4_takeTest (d + 1) 45 [.ref 2, .int v1, .int (mx_b x4)] [] M12 Q
        refine mx_aload_n 0 (mx_da t_X4_takeTest 23 rfl) rfl rfl rfl rfl ?_
        refine mx_iload_n 1 (mx_da t_X4_takeTest 24 rfl) rfl rfl rfl ?_
        refine mx_callV yX4_takeSum m_X4_takeSum [.int v1] mm_X4_takeSum ml_RX4_199 im_X4_takeSum se_X4_takeSum (tp_s T 2 rfl) rfl rfl (Nat.le_of_ble_eq_true rfl) (mx_da t_X4_takeTest 25 rfl) rfl (Nat.le_of_ble_eq_true rfl) rfl ?_
        refine mx_mono h ?_
        intro o M13 ho
        obtain ⟨e1, e2, ho⟩ := ho
        obtain ⟨x14, rfl, h⟩ := ho
        refine ⟨e1, ?_⟩
        have T := tp_of e1 e2 T
        have hu0 := (congrFun (congrFun e2 2) 2).trans hu0
        clear e1 e2
        show mx_W m_X4_takeTest (d + 1) 50 [.ref 2, .int v1, .int (mx_b x4)] [.int (mx_b x14)] M13 Q
        refine mx_if_ne 55 (mx_da t_X4_takeTest 26 rfl) rfl rfl (fun g9 => ?_) (fun g9 => ?_)
        · have h := h.1 (mx_bn.mp g9)
          refine mx_aload_n 0 (mx_da t_X4_takeTest 29 rfl) rfl rfl rfl rfl ?_
          refine mx_getR 6 fs_RX4_21 rfl (tp_s T 2 rfl) (tp_r T 7 rfl) (mx_da t_X4_takeTest 30 rfl) rfl ?_
          refine mx_iload_n 2 (mx_da t_X4_takeTest 31 rfl) rfl rfl rfl ?_
          refine mx_if_eq 68 (mx_da t_X4_takeTest 32 rfl) rfl rfl (fun g9 => ?_) (fun g9 => ?_)
          · have h := h.1 (mx_b0.mp g9)
            refine mx_bipush (v := (-9)) (mx_da t_X4_takeTest 35 rfl) rfl rfl ?_
            refine mx_callV yX7_addStep m_X7_addStep [.int (-9)] mm_X7_addStep ml_RX4_186 im_X7_addStep se_X7_addStep (tp_s T 6 rfl) rfl rfl (Nat.le_of_ble_eq_true rfl) (mx_da t_X4_takeTest 36 rfl) rfl (Nat.le_of_ble_eq_true rfl) rfl ?_
            refine mx_mono h ?_
            intro o M15 ho
            obtain ⟨e1, e2, ho⟩ := ho
            obtain ⟨rfl, h⟩ := ho
            refine ⟨e1, ?_⟩
            have T := tp_of e1 e2 T
            have hu0 := (congrFun (congrFun e2 2) 2).trans hu0
            clear e1 e2
            show mx_W m_X4_takeTest (d + 1) 73 [.ref 2, .int v1, .int (mx_b x4)] [] M15 Q
            refine mx_iconst (v := 1) (mx_da t_X4_takeTest 37 rfl) rfl rfl ?_
            exact mx_zret rfl rfl (mx_da t_X4_takeTest 38 rfl) h
          · have h := h.2 (mx_bn.mp g9)
            refine mx_bipush (v := (-8)) (mx_da t_X4_takeTest 33 rfl) rfl rfl ?_
            refine mx_goto (n := 70) (mx_da t_X4_takeTest 34 rfl) rfl ?_
            refine mx_callV yX7_addStep m_X7_addStep [.int (-8)] mm_X7_addStep ml_RX4_186 im_X7_addStep se_X7_addStep (tp_s T 6 rfl) rfl rfl (Nat.le_of_ble_eq_true rfl) (mx_da t_X4_takeTest 36 rfl) rfl (Nat.le_of_ble_eq_true rfl) rfl ?_
            refine mx_mono h ?_
            intro o M16 ho
            obtain ⟨e1, e2, ho⟩ := ho
            obtain ⟨rfl, h⟩ := ho
            refine ⟨e1, ?_⟩
            have T := tp_of e1 e2 T
            have hu0 := (congrFun (congrFun e2 2) 2).trans hu0
            clear e1 e2
            show mx_W m_X4_takeTest (d + 1) 73 [.ref 2, .int v1, .int (mx_b x4)] [] M16 Q
            refine mx_iconst (v := 1) (mx_da t_X4_takeTest 37 rfl) rfl rfl ?_
            exact mx_zret rfl rfl (mx_da t_X4_takeTest 38 rfl) h
        · have h := h.2 (mx_b0.mp g9)
          refine mx_iconst (v := 0) (mx_da t_X4_takeTest 27 rfl) rfl rfl ?_
          exact mx_zret rfl rfl (mx_da t_X4_takeTest 28 rfl) h
      · have h := h.2 (mx_b0.mp g9)
        refine mx_iconst (v := 1) (mx_da t_X4_takeTest 18 rfl) rfl rfl ?_
        exact mx_zret rfl rfl (mx_da t_X4_takeTest 19 rfl) h
  · have h := h.2 (mx_b0.mp g9)
    refine mx_iconst (v := 0) (mx_da t_X4_takeTest 4 rfl) rfl rfl ?_
    exact mx_zret rfl rfl (mx_da t_X4_takeTest 5 rfl) h
set_option maxHeartbeats 1000000 in
theorem x_X4_takeSum_0 {d : Nat} {M : mx_M} {Q : mx_O → mx_M → Prop} (T : mx_Tp M) (u : Nat) (hu : mx_Cat u) (hu0 : mx_R M 2 2 = u) (v1 : Int32)
    (h : (mx_W m_X4_takeProduct d 0 [.ref 2, .int v1, .retAddr 0, .retAddr 0] [] M (fun o M1 => mx_sh M1 = mx_sh M ∧ mx_R M1 = mx_R M ∧ (∃ x2 : Bool, o = .inl (some (.int (mx_b x2))) ∧ ((x2 = true → mx_W m_X4_takeSum (d + 1) 12 [.ref 2, .int v1, .int 0, .retAddr 0] [] M1 Q) ∧ (x2 = false → Q (.inl (some (.int (mx_b false)))) M1)))))) :
    mx_W m_X4_takeSum (d + 1) 0 [.ref 2, .int v1, .retAddr 0, .retAddr 0] [] M Q := by
  refine mx_aload_n 0 (mx_da t_X4_takeSum 0 rfl) rfl rfl rfl rfl ?_
  refine mx_iload_n 1 (mx_da t_X4_takeSum 1 rfl) rfl rfl rfl ?_
  refine mx_callV yX4_takeProduct m_X4_takeProduct [.int v1] mm_X4_takeProduct ml_RX4_202 im_X4_takeProduct se_X4_takeProduct (tp_s T 2 rfl) rfl rfl (Nat.le_of_ble_eq_true rfl) (mx_da t_X4_takeSum 2 rfl) rfl (Nat.le_of_ble_eq_true rfl) rfl ?_
  refine mx_mono h ?_
  intro o M1 ho
  obtain ⟨e1, e2, ho⟩ := ho
  obtain ⟨x2, rfl, h⟩ := ho
  refine ⟨e1, ?_⟩
  have T := tp_of e1 e2 T
  have hu0 := (congrFun (congrFun e2 2) 2).trans hu0
  clear e1 e2
  show mx_W m_X4_takeSum (d + 1) 5 [.ref 2, .int v1, .retAddr 0, .retAddr 0] [.int (mx_b x2)] M1 Q
  refine mx_if_ne 10 (mx_da t_X4_takeSum 3 rfl) rfl rfl (fun g9 => ?_) (fun g9 => ?_)
  · have h := h.1 (mx_bn.mp g9)
    refine mx_iconst (v := 0) (mx_da t_X4_takeSum 6 rfl) rfl rfl ?_
    refine mx_istore_n 2 [.ref 2, .int v1, .int 0, .retAddr 0] (mx_da t_X4_takeSum 7 rfl) rfl rfl (by decide) rfl ?_
    exact h
  · have h := h.2 (mx_b0.mp g9)
    refine mx_iconst (v := 0) (mx_da t_X4_takeSum 4 rfl) rfl rfl ?_
    exact mx_zret rfl rfl (mx_da t_X4_takeSum 5 rfl) h
set_option maxHeartbeats 1000000 in
theorem x_X4_takeSum_12 {d : Nat} {M : mx_M} {Q : mx_O → mx_M → Prop} (T : mx_Tp M) (u : Nat) (hu : mx_Cat u) (hu0 : mx_R M 2 2 = u) (v1 : Int32) (v2 : Int32)
    (h : (((700 : Int32) ≤ v2 → Q (.inl (some (.int (mx_b true)))) M) ∧ (¬ (700 : Int32) ≤ v2 → (mx_W m_X8_isSign d 0 [.ref 3, .int 43] [] M (fun o M1 => mx_sh M1 = mx_sh M ∧ mx_R M1 = mx_R M ∧ (∃ x2 : Bool, o = .inl (some (.int (mx_b x2))) ∧ ((x2 = true → (mx_W m_X8_isSign d 0 [.ref 3, .int 43] [] M1 (fun o M3 => mx_sh M3 = mx_sh M1 ∧ mx_R M3 = mx_R M1 ∧ (∃ x4 : Bool, o = .inl (some (.int (mx_b x4))) ∧ ((x4 = false → (mx_W m_X8_step d 0 [.ref 3, .retAddr 0] [] M3 (fun o M5 => mx_sh M5 = mx_sh M3 ∧ mx_R M5 = mx_R M3 ∧ (o = .inl none ∧ (mx_W m_X4_takeProduct d 0 [.ref 2, .int v1, .retAddr 0, .retAddr 0] [] M5 (fun o M6 => mx_sh M6 = mx_sh M5 ∧ mx_R M6 = mx_R M5 ∧ (∃ x7 : Bool, o = .inl (some (.int (mx_b x7))) ∧ ((x7 = true → (mx_W m_X7_addStep d 0 [.ref 6, .int (-11)] [] M6 (fun o M8 => mx_sh M8 = mx_sh M6 ∧ mx_R M8 = mx_R M6 ∧ (o = .inl none ∧ mx_W m_X4_takeSum (d + 1) 12 [.ref 2, .int v1, .int (v2 + 1), .retAddr 0] [] M8 Q)))) ∧ (x7 = false → Q (.inl (some (.int (mx_b false)))) M6))))))))) ∧ (x4 = true → (mx_W m_X8_step d 0 [.ref 3, .retAddr 0] [] M3 (fun o M9 => mx_sh M9 = mx_sh M3 ∧ mx_R M9 = mx_R M3 ∧ (o = .inl none ∧ (mx_W m_X4_takeProduct d 0 [.ref 2, .int v1, .retAddr 0, .retAddr 0] [] M9 (fun o M10 => mx_sh M10 = mx_sh M9 ∧ mx_R M10 = mx_R M9 ∧ (∃ x11 : Bool, o = .inl (some (.int (mx_b x11))) ∧ ((x11 = true → (mx_W m_X7_addStep d 0 [.ref 6, .int (-10)] [] M10 (fun o M12 => mx_sh M12 = mx_sh M10 ∧ mx_R M12 = mx_R M10 ∧ (o = .inl none ∧ mx_W m_X4_takeSum (d + 1) 12 [.ref 2, .int v1, .int (v2 + 1), .retAddr 0] [] M12 Q)))) ∧ (x11 = false → Q (.inl (some (.int (mx_b false)))) M10)))))))))))))) ∧ (x2 = false → (mx_W m_X8_isSign d 0 [.ref 3, .int 45] [] M1 (fun o M13 => mx_sh M13 = mx_sh M1 ∧ mx_R M13 = mx_R M1 ∧ (∃ x14 : Bool, o = .inl (some (.int (mx_b x14))) ∧ ((x14 = false → Q (.inl (some (.int (mx_b true)))) M13) ∧ (x14 = true → (mx_W m_X8_isSign d 0 [.ref 3, .int 43] [] M13 (fun o M15 => mx_sh M15 = mx_sh M13 ∧ mx_R M15 = mx_R M13 ∧ (∃ x16 : Bool, o = .inl (some (.int (mx_b x16))) ∧ ((x16 = false → (mx_W m_X8_step d 0 [.ref 3, .retAddr 0] [] M15 (fun o M17 => mx_sh M17 = mx_sh M15 ∧ mx_R M17 = mx_R M15 ∧ (o = .inl none ∧ (mx_W m_X4_takeProduct d 0 [.ref 2, .int v1, .retAddr 0, .retAddr 0] [] M17 (fun o M18 => mx_sh M18 = mx_sh M17 ∧ mx_R M18 = mx_R M17 ∧ (∃ x19 : Bool, o = .inl (some (.int (mx_b x19))) ∧ ((x19 = true → (mx_W m_X7_addStep d 0 [.ref 6, .int (-11)] [] M18 (fun o M20 => mx_sh M20 = mx_sh M18 ∧ mx_R M20 = mx_R M18 ∧ (o = .inl none ∧ mx_W m_X4_takeSum (d + 1) 12 [.ref 2, .int v1, .int (v2 + 1), .retAddr 0] [] M20 Q)))) ∧ (x19 = false → Q (.inl (some (.int (mx_b false)))) M18))))))))) ∧ (x16 = true → (mx_W m_X8_step d 0 [.ref 3, .retAddr 0] [] M15 (fun o M21 => mx_sh M21 = mx_sh M15 ∧ mx_R M21 = mx_R M15 ∧ (o = .inl none ∧ (mx_W m_X4_takeProduct d 0 [.ref 2, .int v1, .retAddr 0, .retAddr 0] [] M21 (fun o M22 => mx_sh M22 = mx_sh M21 ∧ mx_R M22 = mx_R M21 ∧ (∃ x23 : Bool, o = .inl (some (.int (mx_b x23))) ∧ ((x23 = true → (mx_W m_X7_addStep d 0 [.ref 6, .int (-10)] [] M22 (fun o M24 => mx_sh M24 = mx_sh M22 ∧ mx_R M24 = mx_R M22 ∧ (o = .inl none ∧ mx_W m_X4_takeSum (d + 1) 12 [.ref 2, .int v1, .int (v2 + 1), .retAddr 0] [] M24 Q)))) ∧ (x23 = false → Q (.inl (some (.int (mx_b false)))) M22)))))))))))))))))))))))))) :
    mx_W m_X4_takeSum (d + 1) 12 [.ref 2, .int v1, .int v2, .retAddr 0] [] M Q := by
  refine mx_iload_n 2 (mx_da t_X4_takeSum 8 rfl) rfl rfl rfl ?_
  refine mx_sipush (v := 700) (mx_da t_X4_takeSum 9 rfl) rfl rfl ?_
  refine mx_icmp_ge 94 (mx_da t_X4_takeSum 10 rfl) rfl rfl (fun g9 => ?_) (fun g9 => ?_)
  · have h := h.1 g9
    refine mx_iconst (v := 1) (mx_da t_X4_takeSum 45 rfl) rfl rfl ?_
    exact mx_zret rfl rfl (mx_da t_X4_takeSum 46 rfl) h
  · have h := h.2 g9
    refine mx_aload_n 0 (mx_da t_X4_takeSum 11 rfl) rfl rfl rfl rfl ?_
    refine mx_getR 3 fs_RX4_12 rfl (tp_s T 2 rfl) (tp_r T 2 rfl) (mx_da t_X4_takeSum 12 rfl) rfl ?_
    refine mx_bipush (v := 43) (mx_da t_X4_takeSum 13 rfl) rfl rfl ?_
    refine mx_callV yX8_isSign m_X8_isSign [.int 43] mm_X8_isSign ml_RX4_66 im_X8_isSign se_X8_isSign (tp_s T 3 rfl) rfl rfl (Nat.le_of_ble_eq_true rfl) (mx_da t_X4_takeSum 14 rfl) rfl (Nat.le_of_ble_eq_true rfl) rfl ?_
    refine mx_mono h ?_
    intro o M1 ho
    obtain ⟨e1, e2, ho⟩ := ho
    obtain ⟨x2, rfl, h⟩ := ho
    refine ⟨e1, ?_⟩
    have T := tp_of e1 e2 T
    have hu0 := (congrFun (congrFun e2 2) 2).trans hu0
    clear e1 e2
    show mx_W m_X4_takeSum (d + 1) 28 [.ref 2, .int v1, .int v2, .retAddr 0] [.int (mx_b x2)] M1 Q
    refine mx_if_ne 43 (mx_da t_X4_takeSum 15 rfl) rfl rfl (fun g9 => ?_) (fun g9 => ?_)
    · have h := h.1 (mx_bn.mp g9)
      refine mx_aload_n 0 (mx_da t_X4_takeSum 21 rfl) rfl rfl rfl rfl ?_
      refine mx_getR 3 fs_RX4_12 rfl (tp_s T 2 rfl) (tp_r T 2 rfl) (mx_da t_X4_takeSum 22 rfl) rfl ?_
      refine mx_bipush (v := 43) (mx_da t_X4_takeSum 23 rfl) rfl rfl ?_
      refine mx_callV yX8_isSign m_X8_isSign [.int 43] mm_X8_isSign ml_RX4_66 im_X8_isSign se_X8_isSign (tp_s T 3 rfl) rfl rfl (Nat.le_of_ble_eq_true rfl) (mx_da t_X4_takeSum 24 rfl) rfl (Nat.le_of_ble_eq_true rfl) rfl ?_
      refine mx_mono h ?_
      intro o M3 ho
      obtain ⟨e1, e2, ho⟩ := ho
      obtain ⟨x4, rfl, h⟩ := ho
      refine ⟨e1, ?_⟩
      have T := tp_of e1 e2 T
      have hu0 := (congrFun (congrFun e2 2) 2).trans hu0
      clear e1 e2
      show mx_W m_X4_takeSum (d + 1) 52 [.ref 2, .int v1, .int v2, .retAddr 0] [.int (mx_b x4)] M3 Q
      refine mx_if_eq 60 (mx_da t_X4_takeSum 25 rfl) rfl rfl (fun g9 => ?_) (fun g9 => ?_)
      · have h := h.1 (mx_b0.mp g9)
        refine mx_bipush (v := (-11)) (mx_da t_X4_takeSum 28 rfl) rfl rfl ?_
        refine mx_istore_n 3 [.ref 2, .int v1, .int v2, .int (-11)] (mx_da t_X4_takeSum 29 rfl) rfl rfl (by decide) rfl ?_
        refine mx_aload_n 0 (mx_da t_X4_takeSum 30 rfl) rfl rfl rfl rfl ?_
        refine mx_getR 3 fs_RX4_12 rfl (tp_s T 2 rfl) (tp_r T 2 rfl) (mx_da t_X4_takeSum 31 rfl) rfl ?_
        refine mx_callV yX8_step m_X8_step [] mm_X8_step ml_RX4_70 im_X8_step se_X8_step (tp_s T 3 rfl) rfl rfl (Nat.le_of_ble_eq_true rfl) (mx_da t_X4_takeSum 32 rfl) rfl (Nat.le_of_ble_eq_true rfl) rfl ?_
        refine mx_mono h ?_
        intro o M5 ho
        obtain ⟨e1, e2, ho⟩ := ho
        obtain ⟨rfl, h⟩ := ho
        refine ⟨e1, ?_⟩
        have T := tp_of e1 e2 T
        have hu0 := (congrFun (congrFun e2 2) 2).trans hu0
        clear e1 e2
        show mx_W m_X4_takeSum (d + 1) 70 [.ref 2, .int v1, .int v2, .int (-11)] [] M5 Q
        refine mx_aload_n 0 (mx_da t_X4_takeSum 33 rfl) rfl rfl rfl rfl ?_
        refine mx_iload_n 1 (mx_da t_X4_takeSum 34 rfl) rfl rfl rfl ?_
        refine mx_callV yX4_takeProduct m_X4_takeProduct [.int v1] mm_X4_takeProduct ml_RX4_202 im_X4_takeProduct se_X4_takeProduct (tp_s T 2 rfl) rfl rfl (Nat.le_of_ble_eq_true rfl) (mx_da t_X4_takeSum 35 rfl) rfl (Nat.le_of_ble_eq_true rfl) rfl ?_
        refine mx_mono h ?_
        intro o M6 ho
        obtain ⟨e1, e2, ho⟩ := ho
        obtain ⟨x7, rfl, h⟩ := ho
        refine ⟨e1, ?_⟩
        have T := tp_of e1 e2 T
        have hu0 := (congrFun (congrFun e2 2) 2).trans hu0
        clear e1 e2
        show mx_W m_X4_takeSum (d + 1) 75 [.ref 2, .int v1, .int v2, .int (-11)] [.int (mx_b x7)] M6 Q
        refine mx_if_ne 80 (mx_da t_X4_takeSum 36 rfl) rfl rfl (fun g9 => ?_) (fun g9 => ?_)
        · have h := h.1 (mx_bn.mp g9)
          refine mx_aload_n 0 (mx_da t_X4_takeSum 39 rfl) rfl rfl rfl rfl ?_
          refine mx_getR 6 fs_RX4_21 rfl (tp_s T 2 rfl) (tp_r T 7 rfl) (mx_da t_X4_takeSum 40 rfl) rfl ?_
          refine mx_iload_n 3 (mx_da t_X4_takeSum 41 rfl) rfl rfl rfl ?_
          refine mx_callV yX7_addStep m_X7_addStep [.int (-11)] mm_X7_addStep ml_RX4_186 im_X7_addStep se_X7_addStep (tp_s T 6 rfl) rfl rfl (Nat.le_of_ble_eq_true rfl) (mx_da t_X4_takeSum 42 rfl) rfl (Nat.le_of_ble_eq_true rfl) rfl ?_
          refine mx_mono h ?_
          intro o M8 ho
          obtain ⟨e1, e2, ho⟩ := ho
          obtain ⟨rfl, h⟩ := ho
          refine ⟨e1, ?_⟩
          have T := tp_of e1 e2 T
          have hu0 := (congrFun (congrFun e2 2) 2).trans hu0
          clear e1 e2
          show mx_W m_X4_takeSum (d + 1) 88 [.ref 2, .int v1, .int v2, .int (-11)] [] M8 Q
          refine mx_iinc 2 (v := v2 + 1) [.ref 2, .int v1, .int (v2 + 1), .int (-11)] (mx_da t_X4_takeSum 43 rfl) rfl (by decide) rfl rfl rfl ?_
          refine mx_goto (n := 12) (mx_da t_X4_takeSum 44 rfl) rfl ?_
          exact mx_wkn [.ref 2, .int v1, .int (v2 + 1), .retAddr 0] ⟨Or.inr rfl, Or.inr rfl, Or.inr rfl, Or.inl rfl, trivial⟩ h
        · have h := h.2 (mx_b0.mp g9)
          refine mx_iconst (v := 0) (mx_da t_X4_takeSum 37 rfl) rfl rfl ?_
          exact mx_zret rfl rfl (mx_da t_X4_takeSum 38 rfl) h
      · have h := h.2 (mx_bn.mp g9)
        refine mx_bipush (v := (-10)) (mx_da t_X4_takeSum 26 rfl) rfl rfl ?_
        refine mx_goto (n := 62) (mx_da t_X4_takeSum 27 rfl) rfl ?_
        refine mx_istore_n 3 [.ref 2, .int v1, .int v2, .int (-10)] (mx_da t_X4_takeSum 29 rfl) rfl rfl (by decide) rfl ?_
        refine mx_aload_n 0 (mx_da t_X4_takeSum 30 rfl) rfl rfl rfl rfl ?_
        refine mx_getR 3 fs_RX4_12 rfl (tp_s T 2 rfl) (tp_r T 2 rfl) (mx_da t_X4_takeSum 31 rfl) rfl ?_
        refine mx_callV yX8_step m_X8_step [] mm_X8_step ml_RX4_70 im_X8_step se_X8_step (tp_s T 3 rfl) rfl rfl (Nat.le_of_ble_eq_true rfl) (mx_da t_X4_takeSum 32 rfl) rfl (Nat.le_of_ble_eq_true rfl) rfl ?_
        refine mx_mono h ?_
        intro o M9 ho
        obtain ⟨e1, e2, ho⟩ := ho
        obtain ⟨rfl, h⟩ := ho
        refine ⟨e1, ?_⟩
        have T := tp_of e1 e2 T
        have hu0 := (congrFun (congrFun e2 2) 2).trans hu0
        clear e1 e2
        show mx_W m_X4_takeSum (d + 1) 70 [.ref 2, .int v1, .int v2, .int (-10)] [] M9 Q
        refine mx_aload_n 0 (mx_da t_X4_takeSum 33 rfl) rfl rfl rfl rfl ?_
        refine mx_iload_n 1 (mx_da t_X4_takeSum 34 rfl) rfl rfl rfl ?_
        refine mx_callV yX4_takeProduct m_X4_takeProduct [.int v1] mm_X4_takeProduct ml_RX4_202 im_X4_takeProduct se_X4_takeProduct (tp_s T 2 rfl) rfl rfl (Nat.le_of_ble_eq_true rfl) (mx_da t_X4_takeSum 35 rfl) rfl (Nat.le_of_ble_eq_true rfl) rfl ?_
        refine mx_mono h ?_
        intro o M10 ho
        obtain ⟨e1, e2, ho⟩ := ho
        obtain ⟨x11, rfl, h⟩ := ho
        refine ⟨e1, ?_⟩
        have T := tp_of e1 e2 T
        have hu0 := (congrFun (congrFun e2 2) 2).trans hu0
        clear e1 e2
        show mx_W m_X4_takeSum (d + 1) 75 [.ref 2, .int v1, .int v2, .int (-10)] [.int (mx_b x11)] M10 Q
        refine mx_if_ne 80 (mx_da t_X4_takeSum 36 rfl) rfl rfl (fun g9 => ?_) (fun g9 => ?_)
        · have h := h.1 (mx_bn.mp g9)
          refine mx_aload_n 0 (mx_da t_X4_takeSum 39 rfl) rfl rfl rfl rfl ?_
          refine mx_getR 6 fs_RX4_21 rfl (tp_s T 2 rfl) (tp_r T 7 rfl) (mx_da t_X4_takeSum 40 rfl) rfl ?_
          refine mx_iload_n 3 (mx_da t_X4_takeSum 41 rfl) rfl rfl rfl ?_
          refine mx_callV yX7_addStep m_X7_addStep [.int (-10)] mm_X7_addStep ml_RX4_186 im_X7_addStep se_X7_addStep (tp_s T 6 rfl) rfl rfl (Nat.le_of_ble_eq_true rfl) (mx_da t_X4_takeSum 42 rfl) rfl (Nat.le_of_ble_eq_true rfl) rfl ?_
          refine mx_mono h ?_
          intro o M12 ho
          obtain ⟨e1, e2, ho⟩ := ho
          obtain ⟨rfl, h⟩ := ho
          refine ⟨e1, ?_⟩
          have T := tp_of e1 e2 T
          have hu0 := (congrFun (congrFun e2 2) 2).trans hu0
          clear e1 e2
          show mx_W m_X4_takeSum (d + 1) 88 [.ref 2, .int v1, .int v2, .int (-10)] [] M12 Q
          refine mx_iinc 2 (v := v2 + 1) [.ref 2, .int v1, .int (v2 + 1), .int (-10)] (mx_da t_X4_takeSum 43 rfl) rfl (by decide) rfl rfl rfl ?_
          refine mx_goto (n := 12) (mx_da t_X4_takeSum 44 rfl) rfl ?_
          exact mx_wkn [.ref 2, .int v1, .int (v2 + 1), .retAddr 0] ⟨Or.inr rfl, Or.inr rfl, Or.inr rfl, Or.inl rfl, trivial⟩ h
        · have h := h.2 (mx_b0.mp g9)
          refine mx_iconst (v := 0) (mx_da t_X4_takeSum 37 rfl) rfl rfl ?_
          exact mx_zret rfl rfl (mx_da t_X4_takeSum 38 rfl) h
    · have h := h.2 (mx_b0.mp g9)
      refine mx_aload_n 0 (mx_da t_X4_takeSum 16 rfl) rfl rfl rfl rfl ?_
      refine mx_getR 3 fs_RX4_12 rfl (tp_s T 2 rfl) (tp_r T 2 rfl) (mx_da t_X4_takeSum 17 rfl) rfl ?_
      refine mx_bipush (v := 45) (mx_da t_X4_takeSum 18 rfl) rfl rfl ?_
      refine mx_callV yX8_isSign m_X8_isSign [.int 45] mm_X8_isSign ml_RX4_66 im_X8_isSign se_X8_isSign (tp_s T 3 rfl) rfl rfl (Nat.le_of_ble_eq_true rfl) (mx_da t_X4_takeSum 19 rfl) rfl (Nat.le_of_ble_eq_true rfl) rfl ?_
      refine mx_mono h ?_
      intro o M13 ho
      obtain ⟨e1, e2, ho⟩ := ho
      obtain ⟨x14, rfl, h⟩ := ho
      refine ⟨e1, ?_⟩
      have T := tp_of e1 e2 T
      have hu0 := (congrFun (congrFun e2 2) 2).trans hu0
      clear e1 e2
      show mx_W m_X4_takeSum (d + 1) 40 [.ref 2, .int v1, .int v2, .retAddr 0] [.int (mx_b x14)] M13 Q
      refine mx_if_eq 94 (mx_da t_X4_takeSum 20 rfl) rfl rfl (fun g9 => ?_) (fun g9 => ?_)
      · have h := h.1 (mx_b0.mp g9)
        refine mx_iconst (v := 1) (mx_da t_X4_takeSum 45 rfl) rfl rfl ?_
        exact mx_zret rfl rfl (mx_da t_X4_takeSum 46 rfl) h
      · have h := h.2 (mx_bn.mp g9)
        refine mx_aload_n 0 (mx_da t_X4_takeSum 21 rfl) rfl rfl rfl rfl ?_
        refine mx_getR 3 fs_RX4_12 rfl (tp_s T 2 rfl) (tp_r T 2 rfl) (mx_da t_X4_takeSum 22 rfl) rfl ?_
        refine mx_bipush (v := 43) (mx_da t_X4_takeSum 23 rfl) rfl rfl ?_
        refine mx_callV yX8_isSign m_X8_isSign [.int 43] mm_X8_isSign ml_RX4_66 im_X8_isSign se_X8_isSign (tp_s T 3 rfl) rfl rfl (Nat.le_of_ble_eq_true rfl) (mx_da t_X4_takeSum 24 rfl) rfl (Nat.le_of_ble_eq_true rfl) rfl ?_
        refine mx_mono h ?_
        intro o M15 ho
        obtain ⟨e1, e2, ho⟩ := ho
        obtain ⟨x16, rfl, h⟩ := ho
        refine ⟨e1, ?_⟩
        have T := tp_of e1 e2 T
        have hu0 := (congrFun (congrFun e2 2) 2).trans hu0
        clear e1 e2
        show mx_W m_X4_takeSum (d + 1) 52 [.ref 2, .int v1, .int v2, .retAddr 0] [.int (mx_b x16)] M15 Q
        refine mx_if_eq 60 (mx_da t_X4_takeSum 25 rfl) rfl rfl (fun g9 => ?_) (fun g9 => ?_)
        · have h := h.1 (mx_b0.mp g9)
          refine mx_bipush (v := (-11)) (mx_da t_X4_takeSum 28 rfl) rfl rfl ?_
          refine mx_istore_n 3 [.ref 2, .int v1, .int v2, .int (-11)] (mx_da t_X4_takeSum 29 rfl) rfl rfl (by decide) rfl ?_
          refine mx_aload_n 0 (mx_da t_X4_takeSum 30 rfl) rfl rfl rfl rfl ?_
          refine mx_getR 3 fs_RX4_12 rfl (tp_s T 2 rfl) (tp_r T 2 rfl) (mx_da t_X4_takeSum 31 rfl) rfl ?_
          refine mx_callV yX8_step m_X8_step [] mm_X8_step ml_RX4_70 im_X8_step se_X8_step (tp_s T 3 rfl) rfl rfl (Nat.le_of_ble_eq_true rfl) (mx_da t_X4_takeSum 32 rfl) rfl (Nat.le_of_ble_eq_true rfl) rfl ?_
          refine mx_mono h ?_
          intro o M17 ho
          obtain ⟨e1, e2, ho⟩ := ho
          obtain ⟨rfl, h⟩ := ho
          refine ⟨e1, ?_⟩
          have T := tp_of e1 e2 T
          have hu0 := (congrFun (congrFun e2 2) 2).trans hu0
          clear e1 e2
          show mx_W m_X4_takeSum (d + 1) 70 [.ref 2, .int v1, .int v2, .int (-11)] [] M17 Q
          refine mx_aload_n 0 (mx_da t_X4_takeSum 33 rfl) rfl rfl rfl rfl ?_
          refine mx_iload_n 1 (mx_da t_X4_takeSum 34 rfl) rfl rfl rfl ?_
          refine mx_callV yX4_takeProduct m_X4_takeProduct [.int v1] mm_X4_takeProduct ml_RX4_202 im_X4_takeProduct se_X4_takeProduct (tp_s T 2 rfl) rfl rfl (Nat.le_of_ble_eq_true rfl) (mx_da t_X4_takeSum 35 rfl) rfl (Nat.le_of_ble_eq_true rfl) rfl ?_
          refine mx_mono h ?_
          intro o M18 ho
          obtain ⟨e1, e2, ho⟩ := ho
          obtain ⟨x19, rfl, h⟩ := ho
          refine ⟨e1, ?_⟩
          have T := tp_of e1 e2 T
          have hu0 := (congrFun (congrFun e2 2) 2).trans hu0
          clear e1 e2
          show mx_W m_X4_takeSum (d + 1) 75 [.ref 2, .int v1, .int v2, .int (-11)] [.int (mx_b x19)] M18 Q
          refine mx_if_ne 80 (mx_da t_X4_takeSum 36 rfl) rfl rfl (fun g9 => ?_) (fun g9 => ?_)
          · have h := h.1 (mx_bn.mp g9)
            refine mx_aload_n 0 (mx_da t_X4_takeSum 39 rfl) rfl rfl rfl rfl ?_
            refine mx_getR 6 fs_RX4_21 rfl (tp_s T 2 rfl) (tp_r T 7 rfl) (mx_da t_X4_takeSum 40 rfl) rfl ?_
            refine mx_iload_n 3 (mx_da t_X4_takeSum 41 rfl) rfl rfl rfl ?_
            refine mx_callV yX7_addStep m_X7_addStep [.int (-11)] mm_X7_addStep ml_RX4_186 im_X7_addStep se_X7_addStep (tp_s T 6 rfl) rfl rfl (Nat.le_of_ble_eq_true rfl) (mx_da t_X4_takeSum 42 rfl) rfl (Nat.le_of_ble_eq_true rfl) rfl ?_
            refine mx_mono h ?_
            intro o M20 ho
            obtain ⟨e1, e2, ho⟩ := ho
            obtain ⟨rfl, h⟩ := ho
            refine ⟨e1, ?_⟩
            have T := tp_of e1 e2 T
            have hu0 := (congrFun (congrFun e2 2) 2).trans hu0
            clear e1 e2
            show mx_W m_X4_takeSum (d + 1) 88 [.ref 2, .int v1, .int v2, .int (-11)] [] M20 Q
            refine mx_iinc 2 (v := v2 + 1) [.ref 2, .int v1, .int (v2 + 1), .int (-11)] (mx_da t_X4_takeSum 43 rfl) rfl (by decide) rfl rfl rfl ?_
            refine mx_goto (n := 12) (mx_da t_X4_takeSum 44 rfl) rfl ?_
            exact mx_wkn [.ref 2, .int v1, .int (v2 + 1), .retAddr 0] ⟨Or.inr rfl, Or.inr rfl, Or.inr rfl, Or.inl rfl, trivial⟩ h
          · have h := h.2 (mx_b0.mp g9)
            refine mx_iconst (v := 0) (mx_da t_X4_takeSum 37 rfl) rfl rfl ?_
            exact mx_zret rfl rfl (mx_da t_X4_takeSum 38 rfl) h
        · have h := h.2 (mx_bn.mp g9)
          refine mx_bipush (v := (-10)) (mx_da t_X4_takeSum 26 rfl) rfl rfl ?_
          refine mx_goto (n := 62) (mx_da t_X4_takeSum 27 rfl) rfl ?_
          refine mx_istore_n 3 [.ref 2, .int v1, .int v2, .int (-10)] (mx_da t_X4_takeSum 29 rfl) rfl rfl (by decide) rfl ?_
          refine mx_aload_n 0 (mx_da t_X4_takeSum 30 rfl) rfl rfl rfl rfl ?_
          refine mx_getR 3 fs_RX4_12 rfl (tp_s T 2 rfl) (tp_r T 2 rfl) (mx_da t_X4_takeSum 31 rfl) rfl ?_
          refine mx_callV yX8_step m_X8_step [] mm_X8_step ml_RX4_70 im_X8_step se_X8_step (tp_s T 3 rfl) rfl rfl (Nat.le_of_ble_eq_true rfl) (mx_da t_X4_takeSum 32 rfl) rfl (Nat.le_of_ble_eq_true rfl) rfl ?_
          refine mx_mono h ?_
          intro o M21 ho
          obtain ⟨e1, e2, ho⟩ := ho
          obtain ⟨rfl, h⟩ := ho
          refine ⟨e1, ?_⟩
          have T := tp_of e1 e2 T
          have hu0 := (congrFun (congrFun e2 2) 2).trans hu0
          clear e1 e2
          show mx_W m_X4_takeSum (d + 1) 70 [.ref 2, .int v1, .int v2, .int (-10)] [] M21 Q
          refine mx_aload_n 0 (mx_da t_X4_takeSum 33 rfl) rfl rfl rfl rfl ?_
          refine mx_iload_n 1 (mx_da t_X4_takeSum 34 rfl) rfl rfl rfl ?_
          refine mx_callV yX4_takeProduct m_X4_takeProduct [.int v1] mm_X4_takeProduct ml_RX4_202 im_X4_takeProduct se_X4_takeProduct (tp_s T 2 rfl) rfl rfl (Nat.le_of_ble_eq_true rfl) (mx_da t_X4_takeSum 35 rfl) rfl (Nat.le_of_ble_eq_true rfl) rfl ?_
          refine mx_mono h ?_
          intro o M22 ho
          obtain ⟨e1, e2, ho⟩ := ho
          obtain ⟨x23, rfl, h⟩ := ho
          refine ⟨e1, ?_⟩
          have T := tp_of e1 e2 T
          have hu0 := (congrFun (congrFun e2 2) 2).trans hu0
          clear e1 e2
          show mx_W m_X4_takeSum (d + 1) 75 [.ref 2, .int v1, .int v2, .int (-10)] [.int (mx_b x23)] M22 Q
          refine mx_if_ne 80 (mx_da t_X4_takeSum 36 rfl) rfl rfl (fun g9 => ?_) (fun g9 => ?_)
          · have h := h.1 (mx_bn.mp g9)
            refine mx_aload_n 0 (mx_da t_X4_takeSum 39 rfl) rfl rfl rfl rfl ?_
            refine mx_getR 6 fs_RX4_21 rfl (tp_s T 2 rfl) (tp_r T 7 rfl) (mx_da t_X4_takeSum 40 rfl) rfl ?_
            refine mx_iload_n 3 (mx_da t_X4_takeSum 41 rfl) rfl rfl rfl ?_
            refine mx_callV yX7_addStep m_X7_addStep [.int (-10)] mm_X7_addStep ml_RX4_186 im_X7_addStep se_X7_addStep (tp_s T 6 rfl) rfl rfl (Nat.le_of_ble_eq_true rfl) (mx_da t_X4_takeSum 42 rfl) rfl (Nat.le_of_ble_eq_true rfl) rfl ?_
            refine mx_mono h ?_
            intro o M24 ho
            obtain ⟨e1, e2, ho⟩ := ho
            obtain ⟨rfl, h⟩ := ho
            refine ⟨e1, ?_⟩
            have T := tp_of e1 e2 T
            have hu0 := (congrFun (congrFun e2 2) 2).trans hu0
            clear e1 e2
            show mx_W m_X4_takeSum (d + 1) 88 [.ref 2, .int v1, .int v2, .int (-10)] [] M24 Q
            refine mx_iinc 2 (v := v2 + 1) [.ref 2, .int v1, .int (v2 + 1), .int (-10)] (mx_da t_X4_takeSum 43 rfl) rfl (by decide) rfl rfl rfl ?_
            refine mx_goto (n := 12) (mx_da t_X4_takeSum 44 rfl) rfl ?_
            exact mx_wkn [.ref 2, .int v1, .int (v2 + 1), .retAddr 0] ⟨Or.inr rfl, Or.inr rfl, Or.inr rfl, Or.inl rfl, trivial⟩ h
          · have h := h.2 (mx_b0.mp g9)
            refine mx_iconst (v := 0) (mx_da t_X4_takeSum 37 rfl) rfl rfl ?_
            exact mx_zret rfl rfl (mx_da t_X4_takeSum 38 rfl) h
set_option maxHeartbeats 1000000 in
theorem x_X4_takeProduct_0 {d : Nat} {M : mx_M} {Q : mx_O → mx_M → Prop} (T : mx_Tp M) (u : Nat) (hu : mx_Cat u) (hu0 : mx_R M 2 2 = u) (v1 : Int32)
    (h : (mx_W m_X4_takePart d 0 [.ref 2, .int v1, .retAddr 0] [] M (fun o M1 => mx_sh M1 = mx_sh M ∧ mx_R M1 = mx_R M ∧ (∃ x2 : Bool, o = .inl (some (.int (mx_b x2))) ∧ ((x2 = true → mx_W m_X4_takeProduct (d + 1) 12 [.ref 2, .int v1, .int 0, .retAddr 0] [] M1 Q) ∧ (x2 = false → Q (.inl (some (.int (mx_b false)))) M1)))))) :
    mx_W m_X4_takeProduct (d + 1) 0 [.ref 2, .int v1, .retAddr 0, .retAddr 0] [] M Q := by
  refine mx_aload_n 0 (mx_da t_X4_takeProduct 0 rfl) rfl rfl rfl rfl ?_
  refine mx_iload_n 1 (mx_da t_X4_takeProduct 1 rfl) rfl rfl rfl ?_
  refine mx_callV yX4_takePart m_X4_takePart [.int v1] mm_X4_takePart ml_RX4_205 im_X4_takePart se_X4_takePart (tp_s T 2 rfl) rfl rfl (Nat.le_of_ble_eq_true rfl) (mx_da t_X4_takeProduct 2 rfl) rfl (Nat.le_of_ble_eq_true rfl) rfl ?_
  refine mx_mono h ?_
  intro o M1 ho
  obtain ⟨e1, e2, ho⟩ := ho
  obtain ⟨x2, rfl, h⟩ := ho
  refine ⟨e1, ?_⟩
  have T := tp_of e1 e2 T
  have hu0 := (congrFun (congrFun e2 2) 2).trans hu0
  clear e1 e2
  show mx_W m_X4_takeProduct (d + 1) 5 [.ref 2, .int v1, .retAddr 0, .retAddr 0] [.int (mx_b x2)] M1 Q
  refine mx_if_ne 10 (mx_da t_X4_takeProduct 3 rfl) rfl rfl (fun g9 => ?_) (fun g9 => ?_)
  · have h := h.1 (mx_bn.mp g9)
    refine mx_iconst (v := 0) (mx_da t_X4_takeProduct 6 rfl) rfl rfl ?_
    refine mx_istore_n 2 [.ref 2, .int v1, .int 0, .retAddr 0] (mx_da t_X4_takeProduct 7 rfl) rfl rfl (by decide) rfl ?_
    exact h
  · have h := h.2 (mx_b0.mp g9)
    refine mx_iconst (v := 0) (mx_da t_X4_takeProduct 4 rfl) rfl rfl ?_
    exact mx_zret rfl rfl (mx_da t_X4_takeProduct 5 rfl) h
set_option maxHeartbeats 1000000 in
theorem x_X4_takeProduct_12 {d : Nat} {M : mx_M} {Q : mx_O → mx_M → Prop} (T : mx_Tp M) (u : Nat) (hu : mx_Cat u) (hu0 : mx_R M 2 2 = u) (v1 : Int32) (v2 : Int32)
    (h : (((700 : Int32) ≤ v2 → Q (.inl (some (.int (mx_b true)))) M) ∧ (¬ (700 : Int32) ≤ v2 → (mx_W m_X8_isSign d 0 [.ref 3, .int 42] [] M (fun o M1 => mx_sh M1 = mx_sh M ∧ mx_R M1 = mx_R M ∧ (∃ x2 : Bool, o = .inl (some (.int (mx_b x2))) ∧ ((x2 = true → (mx_W m_X8_isSign d 0 [.ref 3, .int 42] [] M1 (fun o M3 => mx_sh M3 = mx_sh M1 ∧ mx_R M3 = mx_R M1 ∧ (∃ x4 : Bool, o = .inl (some (.int (mx_b x4))) ∧ ((x4 = false → (mx_W m_X8_step d 0 [.ref 3, .retAddr 0] [] M3 (fun o M5 => mx_sh M5 = mx_sh M3 ∧ mx_R M5 = mx_R M3 ∧ (o = .inl none ∧ (mx_W m_X4_takePart d 0 [.ref 2, .int v1, .retAddr 0] [] M5 (fun o M6 => mx_sh M6 = mx_sh M5 ∧ mx_R M6 = mx_R M5 ∧ (∃ x7 : Bool, o = .inl (some (.int (mx_b x7))) ∧ ((x7 = true → (mx_W m_X7_addStep d 0 [.ref 6, .int (-13)] [] M6 (fun o M8 => mx_sh M8 = mx_sh M6 ∧ mx_R M8 = mx_R M6 ∧ (o = .inl none ∧ mx_W m_X4_takeProduct (d + 1) 12 [.ref 2, .int v1, .int (v2 + 1), .retAddr 0] [] M8 Q)))) ∧ (x7 = false → Q (.inl (some (.int (mx_b false)))) M6))))))))) ∧ (x4 = true → (mx_W m_X8_step d 0 [.ref 3, .retAddr 0] [] M3 (fun o M9 => mx_sh M9 = mx_sh M3 ∧ mx_R M9 = mx_R M3 ∧ (o = .inl none ∧ (mx_W m_X4_takePart d 0 [.ref 2, .int v1, .retAddr 0] [] M9 (fun o M10 => mx_sh M10 = mx_sh M9 ∧ mx_R M10 = mx_R M9 ∧ (∃ x11 : Bool, o = .inl (some (.int (mx_b x11))) ∧ ((x11 = true → (mx_W m_X7_addStep d 0 [.ref 6, .int (-12)] [] M10 (fun o M12 => mx_sh M12 = mx_sh M10 ∧ mx_R M12 = mx_R M10 ∧ (o = .inl none ∧ mx_W m_X4_takeProduct (d + 1) 12 [.ref 2, .int v1, .int (v2 + 1), .retAddr 0] [] M12 Q)))) ∧ (x11 = false → Q (.inl (some (.int (mx_b false)))) M10)))))))))))))) ∧ (x2 = false → (mx_W m_X8_isSign d 0 [.ref 3, .int 47] [] M1 (fun o M13 => mx_sh M13 = mx_sh M1 ∧ mx_R M13 = mx_R M1 ∧ (∃ x14 : Bool, o = .inl (some (.int (mx_b x14))) ∧ ((x14 = false → Q (.inl (some (.int (mx_b true)))) M13) ∧ (x14 = true → (mx_W m_X8_isSign d 0 [.ref 3, .int 42] [] M13 (fun o M15 => mx_sh M15 = mx_sh M13 ∧ mx_R M15 = mx_R M13 ∧ (∃ x16 : Bool, o = .inl (some (.int (mx_b x16))) ∧ ((x16 = false → (mx_W m_X8_step d 0 [.ref 3, .retAddr 0] [] M15 (fun o M17 => mx_sh M17 = mx_sh M15 ∧ mx_R M17 = mx_R M15 ∧ (o = .inl none ∧ (mx_W m_X4_takePart d 0 [.ref 2, .int v1, .retAddr 0] [] M17 (fun o M18 => mx_sh M18 = mx_sh M17 ∧ mx_R M18 = mx_R M17 ∧ (∃ x19 : Bool, o = .inl (some (.int (mx_b x19))) ∧ ((x19 = true → (mx_W m_X7_addStep d 0 [.ref 6, .int (-13)] [] M18 (fun o M20 => mx_sh M20 = mx_sh M18 ∧ mx_R M20 = mx_R M18 ∧ (o = .inl none ∧ mx_W m_X4_takeProduct (d + 1) 12 [.ref 2, .int v1, .int (v2 + 1), .retAddr 0] [] M20 Q)))) ∧ (x19 = false → Q (.inl (some (.int (mx_b false)))) M18))))))))) ∧ (x16 = true → (mx_W m_X8_step d 0 [.ref 3, .retAddr 0] [] M15 (fun o M21 => mx_sh M21 = mx_sh M15 ∧ mx_R M21 = mx_R M15 ∧ (o = .inl none ∧ (mx_W m_X4_takePart d 0 [.ref 2, .int v1, .retAddr 0] [] M21 (fun o M22 => mx_sh M22 = mx_sh M21 ∧ mx_R M22 = mx_R M21 ∧ (∃ x23 : Bool, o = .inl (some (.int (mx_b x23))) ∧ ((x23 = true → (mx_W m_X7_addStep d 0 [.ref 6, .int (-12)] [] M22 (fun o M24 => mx_sh M24 = mx_sh M22 ∧ mx_R M24 = mx_R M22 ∧ (o = .inl none ∧ mx_W m_X4_takeProduct (d + 1) 12 [.ref 2, .int v1, .int (v2 + 1), .retAddr 0] [] M24 Q)))) ∧ (x23 = false → Q (.inl (some (.int (mx_b false)))) M22)))))))))))))))))))))))))) :
    mx_W m_X4_takeProduct (d + 1) 12 [.ref 2, .int v1, .int v2, .retAddr 0] [] M Q := by
  refine mx_iload_n 2 (mx_da t_X4_takeProduct 8 rfl) rfl rfl rfl ?_
  refine mx_sipush (v := 700) (mx_da t_X4_takeProduct 9 rfl) rfl rfl ?_
  refine mx_icmp_ge 94 (mx_da t_X4_takeProduct 10 rfl) rfl rfl (fun g9 => ?_) (fun g9 => ?_)
  · have h := h.1 g9
    refine mx_iconst (v := 1) (mx_da t_X4_takeProduct 45 rfl) rfl rfl ?_
    exact mx_zret rfl rfl (mx_da t_X4_takeProduct 46 rfl) h
  · have h := h.2 g9
    refine mx_aload_n 0 (mx_da t_X4_takeProduct 11 rfl) rfl rfl rfl rfl ?_
    refine mx_getR 3 fs_RX4_12 rfl (tp_s T 2 rfl) (tp_r T 2 rfl) (mx_da t_X4_takeProduct 12 rfl) rfl ?_
    refine mx_bipush (v := 42) (mx_da t_X4_takeProduct 13 rfl) rfl rfl ?_
    refine mx_callV yX8_isSign m_X8_isSign [.int 42] mm_X8_isSign ml_RX4_66 im_X8_isSign se_X8_isSign (tp_s T 3 rfl) rfl rfl (Nat.le_of_ble_eq_true rfl) (mx_da t_X4_takeProduct 14 rfl) rfl (Nat.le_of_ble_eq_true rfl) rfl ?_
    refine mx_mono h ?_
    intro o M1 ho
    obtain ⟨e1, e2, ho⟩ := ho
    obtain ⟨x2, rfl, h⟩ := ho
    refine ⟨e1, ?_⟩
    have T := tp_of e1 e2 T
    have hu0 := (congrFun (congrFun e2 2) 2).trans hu0
    clear e1 e2
    show mx_W m_X4_takeProduct (d + 1) 28 [.ref 2, .int v1, .int v2, .retAddr 0] [.int (mx_b x2)] M1 Q
    refine mx_if_ne 43 (mx_da t_X4_takeProduct 15 rfl) rfl rfl (fun g9 => ?_) (fun g9 => ?_)
    · have h := h.1 (mx_bn.mp g9)
      refine mx_aload_n 0 (mx_da t_X4_takeProduct 21 rfl) rfl rfl rfl rfl ?_
      refine mx_getR 3 fs_RX4_12 rfl (tp_s T 2 rfl) (tp_r T 2 rfl) (mx_da t_X4_takeProduct 22 rfl) rfl ?_
      refine mx_bipush (v := 42) (mx_da t_X4_takeProduct 23 rfl) rfl rfl ?_
      refine mx_callV yX8_isSign m_X8_isSign [.int 42] mm_X8_isSign ml_RX4_66 im_X8_isSign se_X8_isSign (tp_s T 3 rfl) rfl rfl (Nat.le_of_ble_eq_true rfl) (mx_da t_X4_takeProduct 24 rfl) rfl (Nat.le_of_ble_eq_true rfl) rfl ?_
      refine mx_mono h ?_
      intro o M3 ho
      obtain ⟨e1, e2, ho⟩ := ho
      obtain ⟨x4, rfl, h⟩ := ho
      refine ⟨e1, ?_⟩
      have T := tp_of e1 e2 T
      have hu0 := (congrFun (congrFun e2 2) 2).trans hu0
      clear e1 e2
      show mx_W m_X4_takeProduct (d + 1) 52 [.ref 2, .int v1, .int v2, .retAddr 0] [.int (mx_b x4)] M3 Q
      refine mx_if_eq 60 (mx_da t_X4_takeProduct 25 rfl) rfl rfl (fun g9 => ?_) (fun g9 => ?_)
      · have h := h.1 (mx_b0.mp g9)
        refine mx_bipush (v := (-13)) (mx_da t_X4_takeProduct 28 rfl) rfl rfl ?_
        refine mx_istore_n 3 [.ref 2, .int v1, .int v2, .int (-13)] (mx_da t_X4_takeProduct 29 rfl) rfl rfl (by decide) rfl ?_
        refine mx_aload_n 0 (mx_da t_X4_takeProduct 30 rfl) rfl rfl rfl rfl ?_
        refine mx_getR 3 fs_RX4_12 rfl (tp_s T 2 rfl) (tp_r T 2 rfl) (mx_da t_X4_takeProduct 31 rfl) rfl ?_
        refine mx_callV yX8_step m_X8_step [] mm_X8_step ml_RX4_70 im_X8_step se_X8_step (tp_s T 3 rfl) rfl rfl (Nat.le_of_ble_eq_true rfl) (mx_da t_X4_takeProduct 32 rfl) rfl (Nat.le_of_ble_eq_true rfl) rfl ?_
        refine mx_mono h ?_
        intro o M5 ho
        obtain ⟨e1, e2, ho⟩ := ho
        obtain ⟨rfl, h⟩ := ho
        refine ⟨e1, ?_⟩
        have T := tp_of e1 e2 T
        have hu0 := (congrFun (congrFun e2 2) 2).trans hu0
        clear e1 e2
        show mx_W m_X4_takeProduct (d + 1) 70 [.ref 2, .int v1, .int v2, .int (-13)] [] M5 Q
        refine mx_aload_n 0 (mx_da t_X4_takeProduct 33 rfl) rfl rfl rfl rfl ?_
        refine mx_iload_n 1 (mx_da t_X4_takeProduct 34 rfl) rfl rfl rfl ?_
        refine mx_callV yX4_takePart m_X4_takePart [.int v1] mm_X4_takePart ml_RX4_205 im_X4_takePart se_X4_takePart (tp_s T 2 rfl) rfl rfl (Nat.le_of_ble_eq_true rfl) (mx_da t_X4_takeProduct 35 rfl) rfl (Nat.le_of_ble_eq_true rfl) rfl ?_
        refine mx_mono h ?_
        intro o M6 ho
        obtain ⟨e1, e2, ho⟩ := ho
        obtain ⟨x7, rfl, h⟩ := ho
        refine ⟨e1, ?_⟩
        have T := tp_of e1 e2 T
        have hu0 := (congrFun (congrFun e2 2) 2).trans hu0
        clear e1 e2
        show mx_W m_X4_takeProduct (d + 1) 75 [.ref 2, .int v1, .int v2, .int (-13)] [.int (mx_b x7)] M6 Q
        refine mx_if_ne 80 (mx_da t_X4_takeProduct 36 rfl) rfl rfl (fun g9 => ?_) (fun g9 => ?_)
        · have h := h.1 (mx_bn.mp g9)
          refine mx_aload_n 0 (mx_da t_X4_takeProduct 39 rfl) rfl rfl rfl rfl ?_
          refine mx_getR 6 fs_RX4_21 rfl (tp_s T 2 rfl) (tp_r T 7 rfl) (mx_da t_X4_takeProduct 40 rfl) rfl ?_
          refine mx_iload_n 3 (mx_da t_X4_takeProduct 41 rfl) rfl rfl rfl ?_
          refine mx_callV yX7_addStep m_X7_addStep [.int (-13)] mm_X7_addStep ml_RX4_186 im_X7_addStep se_X7_addStep (tp_s T 6 rfl) rfl rfl (Nat.le_of_ble_eq_true rfl) (mx_da t_X4_takeProduct 42 rfl) rfl (Nat.le_of_ble_eq_true rfl) rfl ?_
          refine mx_mono h ?_
          intro o M8 ho
          obtain ⟨e1, e2, ho⟩ := ho
          obtain ⟨rfl, h⟩ := ho
          refine ⟨e1, ?_⟩
          have T := tp_of e1 e2 T
          have hu0 := (congrFun (congrFun e2 2) 2).trans hu0
          clear e1 e2
          show mx_W m_X4_takeProduct (d + 1) 88 [.ref 2, .int v1, .int v2, .int (-13)] [] M8 Q
          refine mx_iinc 2 (v := v2 + 1) [.ref 2, .int v1, .int (v2 + 1), .int (-13)] (mx_da t_X4_takeProduct 43 rfl) rfl (by decide) rfl rfl rfl ?_
          refine mx_goto (n := 12) (mx_da t_X4_takeProduct 44 rfl) rfl ?_
          exact mx_wkn [.ref 2, .int v1, .int (v2 + 1), .retAddr 0] ⟨Or.inr rfl, Or.inr rfl, Or.inr rfl, Or.inl rfl, trivial⟩ h
        · have h := h.2 (mx_b0.mp g9)
          refine mx_iconst (v := 0) (mx_da t_X4_takeProduct 37 rfl) rfl rfl ?_
          exact mx_zret rfl rfl (mx_da t_X4_takeProduct 38 rfl) h
      · have h := h.2 (mx_bn.mp g9)
        refine mx_bipush (v := (-12)) (mx_da t_X4_takeProduct 26 rfl) rfl rfl ?_
        refine mx_goto (n := 62) (mx_da t_X4_takeProduct 27 rfl) rfl ?_
        refine mx_istore_n 3 [.ref 2, .int v1, .int v2, .int (-12)] (mx_da t_X4_takeProduct 29 rfl) rfl rfl (by decide) rfl ?_
        refine mx_aload_n 0 (mx_da t_X4_takeProduct 30 rfl) rfl rfl rfl rfl ?_
        refine mx_getR 3 fs_RX4_12 rfl (tp_s T 2 rfl) (tp_r T 2 rfl) (mx_da t_X4_takeProduct 31 rfl) rfl ?_
        refine mx_callV yX8_step m_X8_step [] mm_X8_step ml_RX4_70 im_X8_step se_X8_step (tp_s T 3 rfl) rfl rfl (Nat.le_of_ble_eq_true rfl) (mx_da t_X4_takeProduct 32 rfl) rfl (Nat.le_of_ble_eq_true rfl) rfl ?_
        refine mx_mono h ?_
        intro o M9 ho
        obtain ⟨e1, e2, ho⟩ := ho
        obtain ⟨rfl, h⟩ := ho
        refine ⟨e1, ?_⟩
        have T := tp_of e1 e2 T
        have hu0 := (congrFun (congrFun e2 2) 2).trans hu0
        clear e1 e2
        show mx_W m_X4_takeProduct (d + 1) 70 [.ref 2, .int v1, .int v2, .int (-12)] [] M9 Q
        refine mx_aload_n 0 (mx_da t_X4_takeProduct 33 rfl) rfl rfl rfl rfl ?_
        refine mx_iload_n 1 (mx_da t_X4_takeProduct 34 rfl) rfl rfl rfl ?_
        refine mx_callV yX4_takePart m_X4_takePart [.int v1] mm_X4_takePart ml_RX4_205 im_X4_takePart se_X4_takePart (tp_s T 2 rfl) rfl rfl (Nat.le_of_ble_eq_true rfl) (mx_da t_X4_takeProduct 35 rfl) rfl (Nat.le_of_ble_eq_true rfl) rfl ?_
        refine mx_mono h ?_
        intro o M10 ho
        obtain ⟨e1, e2, ho⟩ := ho
        obtain ⟨x11, rfl, h⟩ := ho
        refine ⟨e1, ?_⟩
        have T := tp_of e1 e2 T
        have hu0 := (congrFun (congrFun e2 2) 2).trans hu0
        clear e1 e2
        show mx_W m_X4_takeProduct (d + 1) 75 [.ref 2, .int v1, .int v2, .int (-12)] [.int (mx_b x11)] M10 Q
        refine mx_if_ne 80 (mx_da t_X4_takeProduct 36 rfl) rfl rfl (fun g9 => ?_) (fun g9 => ?_)
        · have h := h.1 (mx_bn.mp g9)
          refine mx_aload_n 0 (mx_da t_X4_takeProduct 39 rfl) rfl rfl rfl rfl ?_
          refine mx_getR 6 fs_RX4_21 rfl (tp_s T 2 rfl) (tp_r T 7 rfl) (mx_da t_X4_takeProduct 40 rfl) rfl ?_
          refine mx_iload_n 3 (mx_da t_X4_takeProduct 41 rfl) rfl rfl rfl ?_
          refine mx_callV yX7_addStep m_X7_addStep [.int (-12)] mm_X7_addStep ml_RX4_186 im_X7_addStep se_X7_addStep (tp_s T 6 rfl) rfl rfl (Nat.le_of_ble_eq_true rfl) (mx_da t_X4_takeProduct 42 rfl) rfl (Nat.le_of_ble_eq_true rfl) rfl ?_
          refine mx_mono h ?_
          intro o M12 ho
          obtain ⟨e1, e2, ho⟩ := ho
          obtain ⟨rfl, h⟩ := ho
          refine ⟨e1, ?_⟩
          have T := tp_of e1 e2 T
          have hu0 := (congrFun (congrFun e2 2) 2).trans hu0
          clear e1 e2
          show mx_W m_X4_takeProduct (d + 1) 88 [.ref 2, .int v1, .int v2, .int (-12)] [] M12 Q
          refine mx_iinc 2 (v := v2 + 1) [.ref 2, .int v1, .int (v2 + 1), .int (-12)] (mx_da t_X4_takeProduct 43 rfl) rfl (by decide) rfl rfl rfl ?_
          refine mx_goto (n := 12) (mx_da t_X4_takeProduct 44 rfl) rfl ?_
          exact mx_wkn [.ref 2, .int v1, .int (v2 + 1), .retAddr 0] ⟨Or.inr rfl, Or.inr rfl, Or.inr rfl, Or.inl rfl, trivial⟩ h
        · have h := h.2 (mx_b0.mp g9)
          refine mx_iconst (v := 0) (mx_da t_X4_takeProduct 37 rfl) rfl rfl ?_
          exact mx_zret rfl rfl (mx_da t_X4_takeProduct 38 rfl) h
    · have h := h.2 (mx_b0.mp g9)
      refine mx_aload_n 0 (mx_da t_X4_takeProduct 16 rfl) rfl rfl rfl rfl ?_
      refine mx_getR 3 fs_RX4_12 rfl (tp_s T 2 rfl) (tp_r T 2 rfl) (mx_da t_X4_takeProduct 17 rfl) rfl ?_
      refine mx_bipush (v := 47) (mx_da t_X4_takeProduct 18 rfl) rfl rfl ?_
      refine mx_callV yX8_isSign m_X8_isSign [.int 47] mm_X8_isSign ml_RX4_66 im_X8_isSign se_X8_isSign (tp_s T 3 rfl) rfl rfl (Nat.le_of_ble_eq_true rfl) (mx_da t_X4_takeProduct 19 rfl) rfl (Nat.le_of_ble_eq_true rfl) rfl ?_
      refine mx_mono h ?_
      intro o M13 ho
      obtain ⟨e1, e2, ho⟩ := ho
      obtain ⟨x14, rfl, h⟩ := ho
      refine ⟨e1, ?_⟩
      have T := tp_of e1 e2 T
      have hu0 := (congrFun (congrFun e2 2) 2).trans hu0
      clear e1 e2
      show mx_W m_X4_takeProduct (d + 1) 40 [.ref 2, .int v1, .int v2, .retAddr 0] [.int (mx_b x14)] M13 Q
      refine mx_if_eq 94 (mx_da t_X4_takeProduct 20 rfl) rfl rfl (fun g9 => ?_) (fun g9 => ?_)
      · have h := h.1 (mx_b0.mp g9)
        refine mx_iconst (v := 1) (mx_da t_X4_takeProduct 45 rfl) rfl rfl ?_
        exact mx_zret rfl rfl (mx_da t_X4_takeProduct 46 rfl) h
      · have h := h.2 (mx_bn.mp g9)
        refine mx_aload_n 0 (mx_da t_X4_takeProduct 21 rfl) rfl rfl rfl rfl ?_
        refine mx_getR 3 fs_RX4_12 rfl (tp_s T 2 rfl) (tp_r T 2 rfl) (mx_da t_X4_takeProduct 22 rfl) rfl ?_
        refine mx_bipush (v := 42) (mx_da t_X4_takeProduct 23 rfl) rfl rfl ?_
        refine mx_callV yX8_isSign m_X8_isSign [.int 42] mm_X8_isSign ml_RX4_66 im_X8_isSign se_X8_isSign (tp_s T 3 rfl) rfl rfl (Nat.le_of_ble_eq_true rfl) (mx_da t_X4_takeProduct 24 rfl) rfl (Nat.le_of_ble_eq_true rfl) rfl ?_
        refine mx_mono h ?_
        intro o M15 ho
        obtain ⟨e1, e2, ho⟩ := ho
        obtain ⟨x16, rfl, h⟩ := ho
        refine ⟨e1, ?_⟩
        have T := tp_of e1 e2 T
        have hu0 := (congrFun (congrFun e2 2) 2).trans hu0
        clear e1 e2
        show mx_W m_X4_takeProduct (d + 1) 52 [.ref 2, .int v1, .int v2, .retAddr 0] [.int (mx_b x16)] M15 Q
        refine mx_if_eq 60 (mx_da t_X4_takeProduct 25 rfl) rfl rfl (fun g9 => ?_) (fun g9 => ?_)
        · have h := h.1 (mx_b0.mp g9)
          refine mx_bipush (v := (-13)) (mx_da t_X4_takeProduct 28 rfl) rfl rfl ?_
          refine mx_istore_n 3 [.ref 2, .int v1, .int v2, .int (-13)] (mx_da t_X4_takeProduct 29 rfl) rfl rfl (by decide) rfl ?_
          refine mx_aload_n 0 (mx_da t_X4_takeProduct 30 rfl) rfl rfl rfl rfl ?_
          refine mx_getR 3 fs_RX4_12 rfl (tp_s T 2 rfl) (tp_r T 2 rfl) (mx_da t_X4_takeProduct 31 rfl) rfl ?_
          refine mx_callV yX8_step m_X8_step [] mm_X8_step ml_RX4_70 im_X8_step se_X8_step (tp_s T 3 rfl) rfl rfl (Nat.le_of_ble_eq_true rfl) (mx_da t_X4_takeProduct 32 rfl) rfl (Nat.le_of_ble_eq_true rfl) rfl ?_
          refine mx_mono h ?_
          intro o M17 ho
          obtain ⟨e1, e2, ho⟩ := ho
          obtain ⟨rfl, h⟩ := ho
          refine ⟨e1, ?_⟩
          have T := tp_of e1 e2 T
          have hu0 := (congrFun (congrFun e2 2) 2).trans hu0
          clear e1 e2
          show mx_W m_X4_takeProduct (d + 1) 70 [.ref 2, .int v1, .int v2, .int (-13)] [] M17 Q
          refine mx_aload_n 0 (mx_da t_X4_takeProduct 33 rfl) rfl rfl rfl rfl ?_
          refine mx_iload_n 1 (mx_da t_X4_takeProduct 34 rfl) rfl rfl rfl ?_
          refine mx_callV yX4_takePart m_X4_takePart [.int v1] mm_X4_takePart ml_RX4_205 im_X4_takePart se_X4_takePart (tp_s T 2 rfl) rfl rfl (Nat.le_of_ble_eq_true rfl) (mx_da t_X4_takeProduct 35 rfl) rfl (Nat.le_of_ble_eq_true rfl) rfl ?_
          refine mx_mono h ?_
          intro o M18 ho
          obtain ⟨e1, e2, ho⟩ := ho
          obtain ⟨x19, rfl, h⟩ := ho
          refine ⟨e1, ?_⟩
          have T := tp_of e1 e2 T
          have hu0 := (congrFun (congrFun e2 2) 2).trans hu0
          clear e1 e2
          show mx_W m_X4_takeProduct (d + 1) 75 [.ref 2, .int v1, .int v2, .int (-13)] [.int (mx_b x19)] M18 Q
          refine mx_if_ne 80 (mx_da t_X4_takeProduct 36 rfl) rfl rfl (fun g9 => ?_) (fun g9 => ?_)
          · have h := h.1 (mx_bn.mp g9)
            refine mx_aload_n 0 (mx_da t_X4_takeProduct 39 rfl) rfl rfl rfl rfl ?_
            refine mx_getR 6 fs_RX4_21 rfl (tp_s T 2 rfl) (tp_r T 7 rfl) (mx_da t_X4_takeProduct 40 rfl) rfl ?_
            refine mx_iload_n 3 (mx_da t_X4_takeProduct 41 rfl) rfl rfl rfl ?_
            refine mx_callV yX7_addStep m_X7_addStep [.int (-13)] mm_X7_addStep ml_RX4_186 im_X7_addStep se_X7_addStep (tp_s T 6 rfl) rfl rfl (Nat.le_of_ble_eq_true rfl) (mx_da t_X4_takeProduct 42 rfl) rfl (Nat.le_of_ble_eq_true rfl) rfl ?_
            refine mx_mono h ?_
            intro o M20 ho
            obtain ⟨e1, e2, ho⟩ := ho
            obtain ⟨rfl, h⟩ := ho
            refine ⟨e1, ?_⟩
            have T := tp_of e1 e2 T
            have hu0 := (congrFun (congrFun e2 2) 2).trans hu0
            clear e1 e2
            show mx_W m_X4_takeProduct (d + 1) 88 [.ref 2, .int v1, .int v2, .int (-13)] [] M20 Q
            refine mx_iinc 2 (v := v2 + 1) [.ref 2, .int v1, .int (v2 + 1), .int (-13)] (mx_da t_X4_takeProduct 43 rfl) rfl (by decide) rfl rfl rfl ?_
            refine mx_goto (n := 12) (mx_da t_X4_takeProduct 44 rfl) rfl ?_
            exact mx_wkn [.ref 2, .int v1, .int (v2 + 1), .retAddr 0] ⟨Or.inr rfl, Or.inr rfl, Or.inr rfl, Or.inl rfl, trivial⟩ h
          · have h := h.2 (mx_b0.mp g9)
            refine mx_iconst (v := 0) (mx_da t_X4_takeProduct 37 rfl) rfl rfl ?_
            exact mx_zret rfl rfl (mx_da t_X4_takeProduct 38 rfl) h
        · have h := h.2 (mx_bn.mp g9)
          refine mx_bipush (v := (-12)) (mx_da t_X4_takeProduct 26 rfl) rfl rfl ?_
          refine mx_goto (n := 62) (mx_da t_X4_takeProduct 27 rfl) rfl ?_
          refine mx_istore_n 3 [.ref 2, .int v1, .int v2, .int (-12)] (mx_da t_X4_takeProduct 29 rfl) rfl rfl (by decide) rfl ?_
          refine mx_aload_n 0 (mx_da t_X4_takeProduct 30 rfl) rfl rfl rfl rfl ?_
          refine mx_getR 3 fs_RX4_12 rfl (tp_s T 2 rfl) (tp_r T 2 rfl) (mx_da t_X4_takeProduct 31 rfl) rfl ?_
          refine mx_callV yX8_step m_X8_step [] mm_X8_step ml_RX4_70 im_X8_step se_X8_step (tp_s T 3 rfl) rfl rfl (Nat.le_of_ble_eq_true rfl) (mx_da t_X4_takeProduct 32 rfl) rfl (Nat.le_of_ble_eq_true rfl) rfl ?_
          refine mx_mono h ?_
          intro o M21 ho
          obtain ⟨e1, e2, ho⟩ := ho
          obtain ⟨rfl, h⟩ := ho
          refine ⟨e1, ?_⟩
          have T := tp_of e1 e2 T
          have hu0 := (congrFun (congrFun e2 2) 2).trans hu0
          clear e1 e2
          show mx_W m_X4_takeProduct (d + 1) 70 [.ref 2, .int v1, .int v2, .int (-12)] [] M21 Q
          refine mx_aload_n 0 (mx_da t_X4_takeProduct 33 rfl) rfl rfl rfl rfl ?_
          refine mx_iload_n 1 (mx_da t_X4_takeProduct 34 rfl) rfl rfl rfl ?_
          refine mx_callV yX4_takePart m_X4_takePart [.int v1] mm_X4_takePart ml_RX4_205 im_X4_takePart se_X4_takePart (tp_s T 2 rfl) rfl rfl (Nat.le_of_ble_eq_true rfl) (mx_da t_X4_takeProduct 35 rfl) rfl (Nat.le_of_ble_eq_true rfl) rfl ?_
          refine mx_mono h ?_
          intro o M22 ho
          obtain ⟨e1, e2, ho⟩ := ho
          obtain ⟨x23, rfl, h⟩ := ho
          refine ⟨e1, ?_⟩
          have T := tp_of e1 e2 T
          have hu0 := (congrFun (congrFun e2 2) 2).trans hu0
          clear e1 e2
          show mx_W m_X4_takeProduct (d + 1) 75 [.ref 2, .int v1, .int v2, .int (-12)] [.int (mx_b x23)] M22 Q
          refine mx_if_ne 80 (mx_da t_X4_takeProduct 36 rfl) rfl rfl (fun g9 => ?_) (fun g9 => ?_)
          · have h := h.1 (mx_bn.mp g9)
            refine mx_aload_n 0 (mx_da t_X4_takeProduct 39 rfl) rfl rfl rfl rfl ?_
            refine mx_getR 6 fs_RX4_21 rfl (tp_s T 2 rfl) (tp_r T 7 rfl) (mx_da t_X4_takeProduct 40 rfl) rfl ?_
            refine mx_iload_n 3 (mx_da t_X4_takeProduct 41 rfl) rfl rfl rfl ?_
            refine mx_callV yX7_addStep m_X7_addStep [.int (-12)] mm_X7_addStep ml_RX4_186 im_X7_addStep se_X7_addStep (tp_s T 6 rfl) rfl rfl (Nat.le_of_ble_eq_true rfl) (mx_da t_X4_takeProduct 42 rfl) rfl (Nat.le_of_ble_eq_true rfl) rfl ?_
            refine mx_mono h ?_
            intro o M24 ho
            obtain ⟨e1, e2, ho⟩ := ho
            obtain ⟨rfl, h⟩ := ho
            refine ⟨e1, ?_⟩
            have T := tp_of e1 e2 T
            have hu0 := (congrFun (congrFun e2 2) 2).trans hu0
            clear e1 e2
            show mx_W m_X4_takeProduct (d + 1) 88 [.ref 2, .int v1, .int v2, .int (-12)] [] M24 Q
            refine mx_iinc 2 (v := v2 + 1) [.ref 2, .int v1, .int (v2 + 1), .int (-12)] (mx_da t_X4_takeProduct 43 rfl) rfl (by decide) rfl rfl rfl ?_
            refine mx_goto (n := 12) (mx_da t_X4_takeProduct 44 rfl) rfl ?_
            exact mx_wkn [.ref 2, .int v1, .int (v2 + 1), .retAddr 0] ⟨Or.inr rfl, Or.inr rfl, Or.inr rfl, Or.inl rfl, trivial⟩ h
          · have h := h.2 (mx_b0.mp g9)
            refine mx_iconst (v := 0) (mx_da t_X4_takeProduct 37 rfl) rfl rfl ?_
            exact mx_zret rfl rfl (mx_da t_X4_takeProduct 38 rfl) h
set_option maxHeartbeats 1000000 in
theorem x_X4_takePart_0 {d : Nat} {M : mx_M} {Q : mx_O → mx_M → Prop} (T : mx_Tp M) (u : Nat) (hu : mx_Cat u) (hu0 : mx_R M 2 2 = u) (v1 : Int32)
    (h : (mx_W m_X8_isSign d 0 [.ref 3, .int 40] [] M (fun o M1 => mx_sh M1 = mx_sh M ∧ mx_R M1 = mx_R M ∧ (∃ x2 : Bool, o = .inl (some (.int (mx_b x2))) ∧ ((x2 = false → ((¬ (mx_I M1 3 4) = (2 : Int32) → ((¬ (mx_I M1 3 4) = (1 : Int32) → (mx_W m_X4_refuse d 0 [.ref 2, .int 1] [] M1 (fun o M3 => mx_sh M3 = mx_sh M1 ∧ mx_R M3 = mx_R M1 ∧ (∃ x4 : Bool, o = .inl (some (.int (mx_b x4))) ∧ Q (.inl (some (.int (mx_b x4)))) M3)))) ∧ ((mx_I M1 3 4) = (1 : Int32) → (mx_W m_X4_valueStep d 0 [.ref 2] [] M1 (fun o M5 => mx_sh M5 = mx_sh M1 ∧ mx_R M5 = mx_R M1 ∧ (∃ x6 : Int32, o = .inl (some (.int x6)) ∧ ((¬ x6 = 0 → (mx_W m_X7_addStep d 0 [.ref 6, .int x6] [] M5 (fun o M7 => mx_sh M7 = mx_sh M5 ∧ mx_R M7 = mx_R M5 ∧ (o = .inl none ∧ (mx_W m_X8_step d 0 [.ref 3, .retAddr 0] [] M7 (fun o M8 => mx_sh M8 = mx_sh M7 ∧ mx_R M8 = mx_R M7 ∧ (o = .inl none ∧ Q (.inl (some (.int (mx_b true)))) M8))))))) ∧ (x6 = 0 → (mx_W m_X4_refuse d 0 [.ref 2, .int 3] [] M5 (fun o M9 => mx_sh M9 = mx_sh M5 ∧ mx_R M9 = mx_R M5 ∧ (∃ x10 : Bool, o = .inl (some (.int (mx_b x10))) ∧ Q (.inl (some (.int (mx_b x10)))) M9))))))))))) ∧ ((mx_I M1 3 4) = (2 : Int32) → (((mx_I M1 3 3) ≤ (4 : Int32) → (mx_W m_X7_addStep d 0 [.ref 6, .int (mx_I M1 3 5)] [] M1 (fun o M11 => mx_sh M11 = mx_sh M1 ∧ mx_R M11 = mx_R M1 ∧ (o = .inl none ∧ (mx_W m_X8_step d 0 [.ref 3, .retAddr 0] [] M11 (fun o M12 => mx_sh M12 = mx_sh M11 ∧ mx_R M12 = mx_R M11 ∧ (o = .inl none ∧ Q (.inl (some (.int (mx_b true)))) M12))))))) ∧ (¬ (mx_I M1 3 3) ≤ (4 : Int32) → (mx_W m_X4_refuse d 0 [.ref 2, .int 2] [] M1 (fun o M13 => mx_sh M13 = mx_sh M1 ∧ mx_R M13 = mx_R M1 ∧ (∃ x14 : Bool, o = .inl (some (.int (mx_b x14))) ∧ Q (.inl (some (.int (mx_b x14)))) M13)))))))) ∧ (x2 = true → (mx_W m_X8_step d 0 [.ref 3, .retAddr 0] [] M1 (fun o M15 => mx_sh M15 = mx_sh M1 ∧ mx_R M15 = mx_R M1 ∧ (o = .inl none ∧ (mx_W m_X4_takeExpression d 0 [.ref 2, .int (v1 + 1), .retAddr 0] [] M15 (fun o M16 => mx_sh M16 = mx_sh M15 ∧ mx_R M16 = mx_R M15 ∧ (∃ x17 : Bool, o = .inl (some (.int (mx_b x17))) ∧ ((x17 = true → (mx_W m_X8_isSign d 0 [.ref 3, .int 41] [] M16 (fun o M18 => mx_sh M18 = mx_sh M16 ∧ mx_R M18 = mx_R M16 ∧ (∃ x19 : Bool, o = .inl (some (.int (mx_b x19))) ∧ ((x19 = true → (mx_W m_X8_step d 0 [.ref 3, .retAddr 0] [] M18 (fun o M20 => mx_sh M20 = mx_sh M18 ∧ mx_R M20 = mx_R M18 ∧ (o = .inl none ∧ Q (.inl (some (.int (mx_b true)))) M20)))) ∧ (x19 = false → (mx_W m_X4_refuse d 0 [.ref 2, .int 1] [] M18 (fun o M21 => mx_sh M21 = mx_sh M18 ∧ mx_R M21 = mx_R M18 ∧ (∃ x22 : Bool, o = .inl (some (.int (mx_b x22))) ∧ Q (.inl (some (.int (mx_b x22)))) M21))))))))) ∧ (x17 = false → Q (.inl (some (.int (mx_b false)))) M16)))))))))))))) :
    mx_W m_X4_takePart (d + 1) 0 [.ref 2, .int v1, .retAddr 0] [] M Q := by
  refine mx_aload_n 0 (mx_da t_X4_takePart 0 rfl) rfl rfl rfl rfl ?_
  refine mx_getR 3 fs_RX4_12 rfl (tp_s T 2 rfl) (tp_r T 2 rfl) (mx_da t_X4_takePart 1 rfl) rfl ?_
  refine mx_bipush (v := 40) (mx_da t_X4_takePart 2 rfl) rfl rfl ?_
  refine mx_callV yX8_isSign m_X8_isSign [.int 40] mm_X8_isSign ml_RX4_66 im_X8_isSign se_X8_isSign (tp_s T 3 rfl) rfl rfl (Nat.le_of_ble_eq_true rfl) (mx_da t_X4_takePart 3 rfl) rfl (Nat.le_of_ble_eq_true rfl) rfl ?_
  refine mx_mono h ?_
  intro o M1 ho
  obtain ⟨e1, e2, ho⟩ := ho
  obtain ⟨x2, rfl, h⟩ := ho
  refine ⟨e1, ?_⟩
  have T := tp_of e1 e2 T
  have hu0 := (congrFun (congrFun e2 2) 2).trans hu0
  clear e1 e2
  show mx_W m_X4_takePart (d + 1) 9 [.ref 2, .int v1, .retAddr 0] [.int (mx_b x2)] M1 Q
  refine mx_if_eq 49 (mx_da t_X4_takePart 4 rfl) rfl rfl (fun g9 => ?_) (fun g9 => ?_)
  · have h := h.1 (mx_b0.mp g9)
    refine mx_aload_n 0 (mx_da t_X4_takePart 25 rfl) rfl rfl rfl rfl ?_
    refine mx_getR 3 fs_RX4_12 rfl (tp_s T 2 rfl) (tp_r T 2 rfl) (mx_da t_X4_takePart 26 rfl) rfl ?_
    refine mx_getI fs_RX4_49 rfl (tp_s T 3 rfl) (mx_da t_X4_takePart 27 rfl) rfl ?_
    refine mx_iconst (v := 2) (mx_da t_X4_takePart 28 rfl) rfl rfl ?_
    refine mx_icmp_ne 94 (mx_da t_X4_takePart 29 rfl) rfl rfl (fun g9 => ?_) (fun g9 => ?_)
    · have h := h.1 g9
      refine mx_aload_n 0 (mx_da t_X4_takePart 46 rfl) rfl rfl rfl rfl ?_
      refine mx_getR 3 fs_RX4_12 rfl (tp_s T 2 rfl) (tp_r T 2 rfl) (mx_da t_X4_takePart 47 rfl) rfl ?_
      refine mx_getI fs_RX4_49 rfl (tp_s T 3 rfl) (mx_da t_X4_takePart 48 rfl) rfl ?_
      refine mx_iconst (v := 1) (mx_da t_X4_takePart 49 rfl) rfl rfl ?_
      refine mx_icmp_ne 131 (mx_da t_X4_takePart 50 rfl) rfl rfl (fun g9 => ?_) (fun g9 => ?_)
      · have h := h.1 g9
        refine mx_aload_n 0 (mx_da t_X4_takePart 65 rfl) rfl rfl rfl rfl ?_
        refine mx_iconst (v := 1) (mx_da t_X4_takePart 66 rfl) rfl rfl ?_
        refine mx_callV yX4_refuse m_X4_refuse [.int 1] mm_X4_refuse ml_RX4_73 im_X4_refuse se_X4_refuse (tp_s T 2 rfl) rfl rfl (Nat.le_of_ble_eq_true rfl) (mx_da t_X4_takePart 67 rfl) rfl (Nat.le_of_ble_eq_true rfl) rfl ?_
        refine mx_mono h ?_
        intro o M3 ho
        obtain ⟨e1, e2, ho⟩ := ho
        obtain ⟨x4, rfl, h⟩ := ho
        refine ⟨e1, ?_⟩
        have T := tp_of e1 e2 T
        have hu0 := (congrFun (congrFun e2 2) 2).trans hu0
        clear e1 e2
        show mx_W m_X4_takePart (d + 1) 136 [.ref 2, .int v1, .retAddr 0] [.int (mx_b x4)] M3 Q
        exact mx_zret rfl (mx_bz _) (mx_da t_X4_takePart 68 rfl) h
      · have h := h.2 g9
        refine mx_aload_n 0 (mx_da t_X4_takePart 51 rfl) rfl rfl rfl rfl ?_
        refine mx_callV yX4_valueStep m_X4_valueStep [] mm_X4_valueStep ml_RX4_208 im_X4_valueStep se_X4_valueStep (tp_s T 2 rfl) rfl rfl (Nat.le_of_ble_eq_true rfl) (mx_da t_X4_takePart 52 rfl) rfl (Nat.le_of_ble_eq_true rfl) rfl ?_
        refine mx_mono h ?_
        intro o M5 ho
        obtain ⟨e1, e2, ho⟩ := ho
        obtain ⟨x6, rfl, h⟩ := ho
        refine ⟨e1, ?_⟩
        have T := tp_of e1 e2 T
        have hu0 := (congrFun (congrFun e2 2) 2).trans hu0
        clear e1 e2
        show mx_W m_X4_takePart (d + 1) 109 [.ref 2, .int v1, .retAddr 0] [.int x6] M5 Q
        refine mx_istore_n 2 [.ref 2, .int v1, .int x6] (mx_da t_X4_takePart 53 rfl) rfl rfl (by decide) rfl ?_
        refine mx_iload_n 2 (mx_da t_X4_takePart 54 rfl) rfl rfl rfl ?_
        refine mx_if_ne 120 (mx_da t_X4_takePart 55 rfl) rfl rfl (fun g9 => ?_) (fun g9 => ?_)
        · have h := h.1 g9
          refine mx_aload_n 0 (mx_da t_X4_takePart 60 rfl) rfl rfl rfl rfl ?_
          refine mx_getR 6 fs_RX4_21 rfl (tp_s T 2 rfl) (tp_r T 7 rfl) (mx_da t_X4_takePart 61 rfl) rfl ?_
          refine mx_iload_n 2 (mx_da t_X4_takePart 62 rfl) rfl rfl rfl ?_
          refine mx_callV yX7_addStep m_X7_addStep [.int x6] mm_X7_addStep ml_RX4_186 im_X7_addStep se_X7_addStep (tp_s T 6 rfl) rfl rfl (Nat.le_of_ble_eq_true rfl) (mx_da t_X4_takePart 63 rfl) rfl (Nat.le_of_ble_eq_true rfl) rfl ?_
          refine mx_mono h ?_
          intro o M7 ho
          obtain ⟨e1, e2, ho⟩ := ho
          obtain ⟨rfl, h⟩ := ho
          refine ⟨e1, ?_⟩
          have T := tp_of e1 e2 T
          have hu0 := (congrFun (congrFun e2 2) 2).trans hu0
          clear e1 e2
          show mx_W m_X4_takePart (d + 1) 128 [.ref 2, .int v1, .int x6] [] M7 Q
          refine mx_goto (n := 137) (mx_da t_X4_takePart 64 rfl) rfl ?_
          refine mx_aload_n 0 (mx_da t_X4_takePart 69 rfl) rfl rfl rfl rfl ?_
          refine mx_getR 3 fs_RX4_12 rfl (tp_s T 2 rfl) (tp_r T 2 rfl) (mx_da t_X4_takePart 70 rfl) rfl ?_
          refine mx_callV yX8_step m_X8_step [] mm_X8_step ml_RX4_70 im_X8_step se_X8_step (tp_s T 3 rfl) rfl rfl (Nat.le_of_ble_eq_true rfl) (mx_da t_X4_takePart 71 rfl) rfl (Nat.le_of_ble_eq_true rfl) rfl ?_
          refine mx_mono h ?_
          intro o M8 ho
          obtain ⟨e1, e2, ho⟩ := ho
          obtain ⟨rfl, h⟩ := ho
          refine ⟨e1, ?_⟩
          have T := tp_of e1 e2 T
          have hu0 := (congrFun (congrFun e2 2) 2).trans hu0
          clear e1 e2
          show mx_W m_X4_takePart (d + 1) 144 [.ref 2, .int v1, .int x6] [] M8 Q
          refine mx_iconst (v := 1) (mx_da t_X4_takePart 72 rfl) rfl rfl ?_
          exact mx_zret rfl rfl (mx_da t_X4_takePart 73 rfl) h
        · have h := h.2 g9
          refine mx_aload_n 0 (mx_da t_X4_takePart 56 rfl) rfl rfl rfl rfl ?_
          refine mx_iconst (v := 3) (mx_da t_X4_takePart 57 rfl) rfl rfl ?_
          refine mx_callV yX4_refuse m_X4_refuse [.int 3] mm_X4_refuse ml_RX4_73 im_X4_refuse se_X4_refuse (tp_s T 2 rfl) rfl rfl (Nat.le_of_ble_eq_true rfl) (mx_da t_X4_takePart 58 rfl) rfl (Nat.le_of_ble_eq_true rfl) rfl ?_
          refine mx_mono h ?_
          intro o M9 ho
          obtain ⟨e1, e2, ho⟩ := ho
          obtain ⟨x10, rfl, h⟩ := ho
          refine ⟨e1, ?_⟩
          have T := tp_of e1 e2 T
          have hu0 := (congrFun (congrFun e2 2) 2).trans hu0
          clear e1 e2
          show mx_W m_X4_takePart (d + 1) 119 [.ref 2, .int v1, .int x6] [.int (mx_b x10)] M9 Q
          exact mx_zret rfl (mx_bz _) (mx_da t_X4_takePart 59 rfl) h
    · have h := h.2 g9
      refine mx_aload_n 0 (mx_da t_X4_takePart 30 rfl) rfl rfl rfl rfl ?_
      refine mx_getR 3 fs_RX4_12 rfl (tp_s T 2 rfl) (tp_r T 2 rfl) (mx_da t_X4_takePart 31 rfl) rfl ?_
      refine mx_getI fs_RX4_126 rfl (tp_s T 3 rfl) (mx_da t_X4_takePart 32 rfl) rfl ?_
      refine mx_iconst (v := 4) (mx_da t_X4_takePart 33 rfl) rfl rfl ?_
      refine mx_icmp_le 77 (mx_da t_X4_takePart 34 rfl) rfl rfl (fun g9 => ?_) (fun g9 => ?_)
      · have h := h.1 g9
        refine mx_aload_n 0 (mx_da t_X4_takePart 39 rfl) rfl rfl rfl rfl ?_
        refine mx_getR 6 fs_RX4_21 rfl (tp_s T 2 rfl) (tp_r T 7 rfl) (mx_da t_X4_takePart 40 rfl) rfl ?_
        refine mx_aload_n 0 (mx_da t_X4_takePart 41 rfl) rfl rfl rfl rfl ?_
        refine mx_getR 3 fs_RX4_12 rfl (tp_s T 2 rfl) (tp_r T 2 rfl) (mx_da t_X4_takePart 42 rfl) rfl ?_
        refine mx_getI fs_RX4_127 rfl (tp_s T 3 rfl) (mx_da t_X4_takePart 43 rfl) rfl ?_
        refine mx_callV yX7_addStep m_X7_addStep [.int (mx_I M1 3 5)] mm_X7_addStep ml_RX4_186 im_X7_addStep se_X7_addStep (tp_s T 6 rfl) rfl rfl (Nat.le_of_ble_eq_true rfl) (mx_da t_X4_takePart 44 rfl) rfl (Nat.le_of_ble_eq_true rfl) rfl ?_
        refine mx_mono h ?_
        intro o M11 ho
        obtain ⟨e1, e2, ho⟩ := ho
        obtain ⟨rfl, h⟩ := ho
        refine ⟨e1, ?_⟩
        have T := tp_of e1 e2 T
        have hu0 := (congrFun (congrFun e2 2) 2).trans hu0
        clear e1 e2
        show mx_W m_X4_takePart (d + 1) 91 [.ref 2, .int v1, .retAddr 0] [] M11 Q
        refine mx_goto (n := 137) (mx_da t_X4_takePart 45 rfl) rfl ?_
        refine mx_aload_n 0 (mx_da t_X4_takePart 69 rfl) rfl rfl rfl rfl ?_
        refine mx_getR 3 fs_RX4_12 rfl (tp_s T 2 rfl) (tp_r T 2 rfl) (mx_da t_X4_takePart 70 rfl) rfl ?_
        refine mx_callV yX8_step m_X8_step [] mm_X8_step ml_RX4_70 im_X8_step se_X8_step (tp_s T 3 rfl) rfl rfl (Nat.le_of_ble_eq_true rfl) (mx_da t_X4_takePart 71 rfl) rfl (Nat.le_of_ble_eq_true rfl) rfl ?_
        refine mx_mono h ?_
        intro o M12 ho
        obtain ⟨e1, e2, ho⟩ := ho
        obtain ⟨rfl, h⟩ := ho
        refine ⟨e1, ?_⟩
        have T := tp_of e1 e2 T
        have hu0 := (congrFun (congrFun e2 2) 2).trans hu0
        clear e1 e2
        show mx_W m_X4_takePart (d + 1) 144 [.ref 2, .int v1, .retAddr 0] [] M12 Q
        refine mx_iconst (v := 1) (mx_da t_X4_takePart 72 rfl) rfl rfl ?_
        exact mx_zret rfl rfl (mx_da t_X4_takePart 73 rfl) h
      · have h := h.2 g9
        refine mx_aload_n 0 (mx_da t_X4_takePart 35 rfl) rfl rfl rfl rfl ?_
        refine mx_iconst (v := 2) (mx_da t_X4_takePart 36 rfl) rfl rfl ?_
        refine mx_callV yX4_refuse m_X4_refuse [.int 2] mm_X4_refuse ml_RX4_73 im_X4_refuse se_X4_refuse (tp_s T 2 rfl) rfl rfl (Nat.le_of_ble_eq_true rfl) (mx_da t_X4_takePart 37 rfl) rfl (Nat.le_of_ble_eq_true rfl) rfl ?_
        refine mx_mono h ?_
        intro o M13 ho
        obtain ⟨e1, e2, ho⟩ := ho
        obtain ⟨x14, rfl, h⟩ := ho
        refine ⟨e1, ?_⟩
        have T := tp_of e1 e2 T
        have hu0 := (congrFun (congrFun e2 2) 2).trans hu0
        clear e1 e2
        show mx_W m_X4_takePart (d + 1) 76 [.ref 2, .int v1, .retAddr 0] [.int (mx_b x14)] M13 Q
        exact mx_zret rfl (mx_bz _) (mx_da t_X4_takePart 38 rfl) h
  · have h := h.2 (mx_bn.mp g9)
    refine mx_aload_n 0 (mx_da t_X4_takePart 5 rfl) rfl rfl rfl rfl ?_
    refine mx_getR 3 fs_RX4_12 rfl (tp_s T 2 rfl) (tp_r T 2 rfl) (mx_da t_X4_takePart 6 rfl) rfl ?_
    refine mx_callV yX8_step m_X8_step [] mm_X8_step ml_RX4_70 im_X8_step se_X8_step (tp_s T 3 rfl) rfl rfl (Nat.le_of_ble_eq_true rfl) (mx_da t_X4_takePart 7 rfl) rfl (Nat.le_of_ble_eq_true rfl) rfl ?_
    refine mx_mono h ?_
    intro o M15 ho
    obtain ⟨e1, e2, ho⟩ := ho
    obtain ⟨rfl, h⟩ := ho
    refine ⟨e1, ?_⟩
    have T := tp_of e1 e2 T
    have hu0 := (congrFun (congrFun e2 2) 2).trans hu0
    clear e1 e2
    show mx_W m_X4_takePart (d + 1) 19 [.ref 2, .int v1, .retAddr 0] [] M15 Q
    refine mx_aload_n 0 (mx_da t_X4_takePart 8 rfl) rfl rfl rfl rfl ?_
    refine mx_iload_n 1 (mx_da t_X4_takePart 9 rfl) rfl rfl rfl ?_
    refine mx_iconst (v := 1) (mx_da t_X4_takePart 10 rfl) rfl rfl ?_
    refine mx_iadd (mx_da t_X4_takePart 11 rfl) rfl ?_
    refine mx_callV yX4_takeExpression m_X4_takeExpression [.int (v1 + 1)] mm_X4_takeExpression ml_RX4_172 im_X4_takeExpression se_X4_takeExpression (tp_s T 2 rfl) rfl rfl (Nat.le_of_ble_eq_true rfl) (mx_da t_X4_takePart 12 rfl) rfl (Nat.le_of_ble_eq_true rfl) rfl ?_
    refine mx_mono h ?_
    intro o M16 ho
    obtain ⟨e1, e2, ho⟩ := ho
    obtain ⟨x17, rfl, h⟩ := ho
    refine ⟨e1, ?_⟩
    have T := tp_of e1 e2 T
    have hu0 := (congrFun (congrFun e2 2) 2).trans hu0
    clear e1 e2
    show mx_W m_X4_takePart (d + 1) 26 [.ref 2, .int v1, .retAddr 0] [.int (mx_b x17)] M16 Q
    refine mx_if_ne 31 (mx_da t_X4_takePart 13 rfl) rfl rfl (fun g9 => ?_) (fun g9 => ?_)
    · have h := h.1 (mx_bn.mp g9)
      refine mx_aload_n 0 (mx_da t_X4_takePart 16 rfl) rfl rfl rfl rfl ?_
      refine mx_getR 3 fs_RX4_12 rfl (tp_s T 2 rfl) (tp_r T 2 rfl) (mx_da t_X4_takePart 17 rfl) rfl ?_
      refine mx_bipush (v := 41) (mx_da t_X4_takePart 18 rfl) rfl rfl ?_
      refine mx_callV yX8_isSign m_X8_isSign [.int 41] mm_X8_isSign ml_RX4_66 im_X8_isSign se_X8_isSign (tp_s T 3 rfl) rfl rfl (Nat.le_of_ble_eq_true rfl) (mx_da t_X4_takePart 19 rfl) rfl (Nat.le_of_ble_eq_true rfl) rfl ?_
      refine mx_mono h ?_
      intro o M18 ho
      obtain ⟨e1, e2, ho⟩ := ho
      obtain ⟨x19, rfl, h⟩ := ho
      refine ⟨e1, ?_⟩
      have T := tp_of e1 e2 T
      have hu0 := (congrFun (congrFun e2 2) 2).trans hu0
      clear e1 e2
      show mx_W m_X4_takePart (d + 1) 40 [.ref 2, .int v1, .retAddr 0] [.int (mx_b x19)] M18 Q
      refine mx_if_ne 137 (mx_da t_X4_takePart 20 rfl) rfl rfl (fun g9 => ?_) (fun g9 => ?_)
      · have h := h.1 (mx_bn.mp g9)
        refine mx_aload_n 0 (mx_da t_X4_takePart 69 rfl) rfl rfl rfl rfl ?_
        refine mx_getR 3 fs_RX4_12 rfl (tp_s T 2 rfl) (tp_r T 2 rfl) (mx_da t_X4_takePart 70 rfl) rfl ?_
        refine mx_callV yX8_step m_X8_step [] mm_X8_step ml_RX4_70 im_X8_step se_X8_step (tp_s T 3 rfl) rfl rfl (Nat.le_of_ble_eq_true rfl) (mx_da t_X4_takePart 71 rfl) rfl (Nat.le_of_ble_eq_true rfl) rfl ?_
        refine mx_mono h ?_
        intro o M20 ho
        obtain ⟨e1, e2, ho⟩ := ho
        obtain ⟨rfl, h⟩ := ho
        refine ⟨e1, ?_⟩
        have T := tp_of e1 e2 T
        have hu0 := (congrFun (congrFun e2 2) 2).trans hu0
        clear e1 e2
        show mx_W m_X4_takePart (d + 1) 144 [.ref 2, .int v1, .retAddr 0] [] M20 Q
        refine mx_iconst (v := 1) (mx_da t_X4_takePart 72 rfl) rfl rfl ?_
        exact mx_zret rfl rfl (mx_da t_X4_takePart 73 rfl) h
      · have h := h.2 (mx_b0.mp g9)
        refine mx_aload_n 0 (mx_da t_X4_takePart 21 rfl) rfl rfl rfl rfl ?_
        refine mx_iconst (v := 1) (mx_da t_X4_takePart 22 rfl) rfl rfl ?_
        refine mx_callV yX4_refuse m_X4_refuse [.int 1] mm_X4_refuse ml_RX4_73 im_X4_refuse se_X4_refuse (tp_s T 2 rfl) rfl rfl (Nat.le_of_ble_eq_true rfl) (mx_da t_X4_takePart 23 rfl) rfl (Nat.le_of_ble_eq_true rfl) rfl ?_
        refine mx_mono h ?_
        intro o M21 ho
        obtain ⟨e1, e2, ho⟩ := ho
        obtain ⟨x22, rfl, h⟩ := ho
        refine ⟨e1, ?_⟩
        have T := tp_of e1 e2 T
        have hu0 := (congrFun (congrFun e2 2) 2).trans hu0
        clear e1 e2
        show mx_W m_X4_takePart (d + 1) 48 [.ref 2, .int v1, .retAddr 0] [.int (mx_b x22)] M21 Q
        exact mx_zret rfl (mx_bz _) (mx_da t_X4_takePart 24 rfl) h
    · have h := h.2 (mx_b0.mp g9)
      refine mx_iconst (v := 0) (mx_da t_X4_takePart 14 rfl) rfl rfl ?_
      exact mx_zret rfl rfl (mx_da t_X4_takePart 15 rfl) h
set_option maxHeartbeats 1000000 in
theorem x_X4_valueStep_0 {d : Nat} {M : mx_M} {Q : mx_O → mx_M → Prop} (T : mx_Tp M) (u : Nat) (hu : mx_Cat u) (hu0 : mx_R M 2 2 = u)
    (h : (mx_W m_X8_isWord d 0 [.ref 3, .retAddr 22, .retAddr 0] [] M (fun o M1 => mx_sh M1 = mx_sh M ∧ mx_R M1 = mx_R M ∧ (∃ x2 : Bool, o = .inl (some (.int (mx_b x2))) ∧ ((x2 = false → (mx_W m_X8_isWord d 0 [.ref 3, .retAddr 24, .retAddr 0] [] M1 (fun o M3 => mx_sh M3 = mx_sh M1 ∧ mx_R M3 = mx_R M1 ∧ (∃ x4 : Bool, o = .inl (some (.int (mx_b x4))) ∧ ((x4 = false → (mx_W m_X8_isWord d 0 [.ref 3, .retAddr 26, .retAddr 0] [] M3 (fun o M5 => mx_sh M5 = mx_sh M3 ∧ mx_R M5 = mx_R M3 ∧ (∃ x6 : Bool, o = .inl (some (.int (mx_b x6))) ∧ ((x6 = false → (mx_W m_X8_isWord d 0 [.ref 3, .retAddr 28, .retAddr 0] [] M5 (fun o M7 => mx_sh M7 = mx_sh M5 ∧ mx_R M7 = mx_R M5 ∧ (∃ x8 : Bool, o = .inl (some (.int (mx_b x8))) ∧ ((x8 = false → Q (.inl (some (.int 0))) M7) ∧ (x8 = true → Q (.inl (some (.int (-4)))) M7)))))) ∧ (x6 = true → Q (.inl (some (.int (-3)))) M5)))))) ∧ (x4 = true → Q (.inl (some (.int (-2)))) M3)))))) ∧ (x2 = true → Q (.inl (some (.int (-1)))) M1)))))) :
    mx_W m_X4_valueStep (d + 1) 0 [.ref 2] [] M Q := by
  refine mx_aload_n 0 (mx_da t_X4_valueStep 0 rfl) rfl rfl rfl rfl ?_
  refine mx_getR 3 fs_RX4_12 rfl (tp_s T 2 rfl) (tp_r T 2 rfl) (mx_da t_X4_valueStep 1 rfl) rfl ?_
  refine mx_ldcS 10 (by decide) rfl (mx_da t_X4_valueStep 2 rfl) rfl ?_
  refine mx_callV yX8_isWord m_X8_isWord [.retAddr 22] mm_X8_isWord ml_RX4_79 im_X8_isWord se_X8_isWord (tp_s T 3 rfl) rfl rfl (Nat.le_of_ble_eq_true rfl) (mx_da t_X4_valueStep 3 rfl) rfl (Nat.le_of_ble_eq_true rfl) rfl ?_
  refine mx_mono h ?_
  intro o M1 ho
  obtain ⟨e1, e2, ho⟩ := ho
  obtain ⟨x2, rfl, h⟩ := ho
  refine ⟨e1, ?_⟩
  have T := tp_of e1 e2 T
  have hu0 := (congrFun (congrFun e2 2) 2).trans hu0
  clear e1 e2
  show mx_W m_X4_valueStep (d + 1) 9 [.ref 2] [.int (mx_b x2)] M1 Q
  refine mx_if_eq 14 (mx_da t_X4_valueStep 4 rfl) rfl rfl (fun g9 => ?_) (fun g9 => ?_)
  · have h := h.1 (mx_b0.mp g9)
    refine mx_aload_n 0 (mx_da t_X4_valueStep 7 rfl) rfl rfl rfl rfl ?_
    refine mx_getR 3 fs_RX4_12 rfl (tp_s T 2 rfl) (tp_r T 2 rfl) (mx_da t_X4_valueStep 8 rfl) rfl ?_
    refine mx_ldcS 11 (by decide) rfl (mx_da t_X4_valueStep 9 rfl) rfl ?_
    refine mx_callV yX8_isWord m_X8_isWord [.retAddr 24] mm_X8_isWord ml_RX4_79 im_X8_isWord se_X8_isWord (tp_s T 3 rfl) rfl rfl (Nat.le_of_ble_eq_true rfl) (mx_da t_X4_valueStep 10 rfl) rfl (Nat.le_of_ble_eq_true rfl) rfl ?_
    refine mx_mono h ?_
    intro o M3 ho
    obtain ⟨e1, e2, ho⟩ := ho
    obtain ⟨x4, rfl, h⟩ := ho
    refine ⟨e1, ?_⟩
    have T := tp_of e1 e2 T
    have hu0 := (congrFun (congrFun e2 2) 2).trans hu0
    clear e1 e2
    show mx_W m_X4_valueStep (d + 1) 23 [.ref 2] [.int (mx_b x4)] M3 Q
    refine mx_if_eq 29 (mx_da t_X4_valueStep 11 rfl) rfl rfl (fun g9 => ?_) (fun g9 => ?_)
    · have h := h.1 (mx_b0.mp g9)
      refine mx_aload_n 0 (mx_da t_X4_valueStep 14 rfl) rfl rfl rfl rfl ?_
      refine mx_getR 3 fs_RX4_12 rfl (tp_s T 2 rfl) (tp_r T 2 rfl) (mx_da t_X4_valueStep 15 rfl) rfl ?_
      refine mx_ldcS 12 (by decide) rfl (mx_da t_X4_valueStep 16 rfl) rfl ?_
      refine mx_callV yX8_isWord m_X8_isWord [.retAddr 26] mm_X8_isWord ml_RX4_79 im_X8_isWord se_X8_isWord (tp_s T 3 rfl) rfl rfl (Nat.le_of_ble_eq_true rfl) (mx_da t_X4_valueStep 17 rfl) rfl (Nat.le_of_ble_eq_true rfl) rfl ?_
      refine mx_mono h ?_
      intro o M5 ho
      obtain ⟨e1, e2, ho⟩ := ho
      obtain ⟨x6, rfl, h⟩ := ho
      refine ⟨e1, ?_⟩
      have T := tp_of e1 e2 T
      have hu0 := (congrFun (congrFun e2 2) 2).trans hu0
      clear e1 e2
      show mx_W m_X4_valueStep (d + 1) 38 [.ref 2] [.int (mx_b x6)] M5 Q
      refine mx_if_eq 44 (mx_da t_X4_valueStep 18 rfl) rfl rfl (fun g9 => ?_) (fun g9 => ?_)
      · have h := h.1 (mx_b0.mp g9)
        refine mx_aload_n 0 (mx_da t_X4_valueStep 21 rfl) rfl rfl rfl rfl ?_
        refine mx_getR 3 fs_RX4_12 rfl (tp_s T 2 rfl) (tp_r T 2 rfl) (mx_da t_X4_valueStep 22 rfl) rfl ?_
        refine mx_ldcS 13 (by decide) rfl (mx_da t_X4_valueStep 23 rfl) rfl ?_
        refine mx_callV yX8_isWord m_X8_isWord [.retAddr 28] mm_X8_isWord ml_RX4_79 im_X8_isWord se_X8_isWord (tp_s T 3 rfl) rfl rfl (Nat.le_of_ble_eq_true rfl) (mx_da t_X4_valueStep 24 rfl) rfl (Nat.le_of_ble_eq_true rfl) rfl ?_
        refine mx_mono h ?_
        intro o M7 ho
        obtain ⟨e1, e2, ho⟩ := ho
        obtain ⟨x8, rfl, h⟩ := ho
        refine ⟨e1, ?_⟩
        have T := tp_of e1 e2 T
        have hu0 := (congrFun (congrFun e2 2) 2).trans hu0
        clear e1 e2
        show mx_W m_X4_valueStep (d + 1) 53 [.ref 2] [.int (mx_b x8)] M7 Q
        refine mx_if_eq 61 (mx_da t_X4_valueStep 25 rfl) rfl rfl (fun g9 => ?_) (fun g9 => ?_)
        · have h := h.1 (mx_b0.mp g9)
          refine mx_iconst (v := 0) (mx_da t_X4_valueStep 28 rfl) rfl rfl ?_
          exact mx_iret rfl (mx_da t_X4_valueStep 29 rfl) h
        · have h := h.2 (mx_bn.mp g9)
          refine mx_bipush (v := (-4)) (mx_da t_X4_valueStep 26 rfl) rfl rfl ?_
          refine mx_goto (n := 62) (mx_da t_X4_valueStep 27 rfl) rfl ?_
          exact mx_iret rfl (mx_da t_X4_valueStep 29 rfl) h
      · have h := h.2 (mx_bn.mp g9)
        refine mx_bipush (v := (-3)) (mx_da t_X4_valueStep 19 rfl) rfl rfl ?_
        exact mx_iret rfl (mx_da t_X4_valueStep 20 rfl) h
    · have h := h.2 (mx_bn.mp g9)
      refine mx_bipush (v := (-2)) (mx_da t_X4_valueStep 12 rfl) rfl rfl ?_
      exact mx_iret rfl (mx_da t_X4_valueStep 13 rfl) h
  · have h := h.2 (mx_bn.mp g9)
    refine mx_iconst (v := (-1)) (mx_da t_X4_valueStep 5 rfl) rfl rfl ?_
    exact mx_iret rfl (mx_da t_X4_valueStep 6 rfl) h
set_option maxHeartbeats 1000000 in
theorem x_X7_addStep_0 {d : Nat} {M : mx_M} {Q : mx_O → mx_M → Prop} (T : mx_Tp M) (v1 : Int32)
    (h : (((700 : Int32) ≤ (mx_I M 6 4) → Q (.inl none) M) ∧ (¬ (700 : Int32) ≤ (mx_I M 6 4) → (vp_in (mx_I M 6 4) 700 ∧ (∀ M1, M1 = mx_setI M 7 ((mx_I M 6 4).toNatClampNeg) v1 → (∀ M2, M2 = mx_setI M1 6 4 ((mx_I M1 6 4) + 1) → Q (.inl none) M2)))))) :
    mx_W m_X7_addStep d 0 [.ref 6, .int v1] [] M Q := by
  refine mx_aload_n 0 (mx_da t_X7_addStep 0 rfl) rfl rfl rfl rfl ?_
  refine mx_getI fs_RX7_24 rfl (tp_s T 6 rfl) (mx_da t_X7_addStep 1 rfl) rfl ?_
  refine mx_sipush (v := 700) (mx_da t_X7_addStep 2 rfl) rfl rfl ?_
  refine mx_icmp_ge 30 (mx_da t_X7_addStep 3 rfl) rfl rfl (fun g9 => ?_) (fun g9 => ?_)
  · have h := h.1 g9
    exact mx_vret rfl (mx_da t_X7_addStep 16 rfl) h
  · have h := h.2 g9
    refine mx_aload_n 0 (mx_da t_X7_addStep 4 rfl) rfl rfl rfl rfl ?_
    refine mx_getR 7 fs_RX7_9 rfl (tp_s T 6 rfl) (tp_r T 3 rfl) (mx_da t_X7_addStep 5 rfl) rfl ?_
    refine mx_aload_n 0 (mx_da t_X7_addStep 6 rfl) rfl rfl rfl rfl ?_
    refine mx_getI fs_RX7_24 rfl (tp_s T 6 rfl) (mx_da t_X7_addStep 7 rfl) rfl ?_
    refine mx_iload_n 1 (mx_da t_X7_addStep 8 rfl) rfl rfl rfl ?_
    refine mx_iast (tp_s T 7 rfl) h.1 (mx_da t_X7_addStep 9 rfl) rfl ?_
    have h := h.2
    refine mx_gen (mx_setI M 7 ((mx_I M 6 4).toNatClampNeg) v1) (fun M1 e9 => ?_)
    have h := h _ e9
    have T : mx_Tp M1 := tp_e e9 T
    refine mx_aload_n 0 (mx_da t_X7_addStep 10 rfl) rfl rfl rfl rfl ?_
    refine mx_dup (mx_da t_X7_addStep 11 rfl) rfl rfl ?_
    refine mx_getI fs_RX7_24 rfl (tp_s T 6 rfl) (mx_da t_X7_addStep 12 rfl) rfl ?_
    refine mx_iconst (v := 1) (mx_da t_X7_addStep 13 rfl) rfl rfl ?_
    refine mx_iadd (mx_da t_X7_addStep 14 rfl) rfl ?_
    refine mx_putI fs_RX7_24 rfl (tp_s T 6 rfl) rfl rfl rfl (mx_da t_X7_addStep 15 rfl) rfl ?_
    refine mx_gen (mx_setI M1 6 4 ((mx_I M1 6 4) + 1)) (fun M2 e9 => ?_)
    have h := h _ e9
    have T : mx_Tp M2 := tp_e e9 T
    exact mx_vret rfl (mx_da t_X7_addStep 16 rfl) h
set_option maxHeartbeats 1000000 in
theorem x_X7_countFor_0 {d : Nat} {M : mx_M} {Q : mx_O → mx_M → Prop} (T : mx_Tp M) (c : Nat) (hc : mx_Cat c)
    (h : mx_W m_X7_countFor (d + 1) 2 [.ref 6, .ref c, .int 0, .retAddr 0] [] M Q) :
    mx_W m_X7_countFor (d + 1) 0 [.ref 6, .ref c, .retAddr 0, .retAddr 0] [] M Q := by
  refine mx_iconst (v := 0) (mx_da t_X7_countFor 0 rfl) rfl rfl ?_
  refine mx_istore_n 2 [.ref 6, .ref c, .int 0, .retAddr 0] (mx_da t_X7_countFor 1 rfl) rfl rfl (by decide) rfl ?_
  exact h
set_option maxHeartbeats 1000000 in
theorem x_X7_countFor_2 {d : Nat} {M : mx_M} {Q : mx_O → mx_M → Prop} (T : mx_Tp M) (c : Nat) (hc : mx_Cat c) (v2 : Int32)
    (h : (((mx_I M c 13) ≤ v2 → Q (.inl none) M) ∧ (¬ (mx_I M c 13) ≤ v2 → mx_W m_X7_countFor (d + 1) 12 [.ref 6, .ref c, .int v2, .int 0] [] M Q))) :
    mx_W m_X7_countFor (d + 1) 2 [.ref 6, .ref c, .int v2, .retAddr 0] [] M Q := by
  refine mx_iload_n 2 (mx_da t_X7_countFor 2 rfl) rfl rfl rfl ?_
  refine mx_aload_n 1 (mx_da t_X7_countFor 3 rfl) rfl rfl rfl rfl ?_
  refine mx_getI fs_RX7_31 rfl (cat_s T hc) (mx_da t_X7_countFor 4 rfl) rfl ?_
  refine mx_icmp_ge 59 (mx_da t_X7_countFor 5 rfl) rfl rfl (fun g9 => ?_) (fun g9 => ?_)
  · have h := h.1 g9
    exact mx_vret rfl (mx_da t_X7_countFor 34 rfl) h
  · have h := h.2 g9
    refine mx_iconst (v := 0) (mx_da t_X7_countFor 6 rfl) rfl rfl ?_
    refine mx_istore_n 3 [.ref 6, .ref c, .int v2, .int 0] (mx_da t_X7_countFor 7 rfl) rfl rfl (by decide) rfl ?_
    exact h
set_option maxHeartbeats 1000000 in
theorem x_X7_countFor_12 {d : Nat} {M : mx_M} {Q : mx_O → mx_M → Prop} (T : mx_Tp M) (c : Nat) (hc : mx_Cat c) (v2 : Int32) (v3 : Int32)
    (h : (((mx_I M c 12) ≤ v3 → mx_W m_X7_countFor (d + 1) 2 [.ref 6, .ref c, .int (v2 + 1), .retAddr 0] [] M Q) ∧ (¬ (mx_I M c 12) ≤ v3 → (vp_in v2 4 ∧ (((mx_I M (c + 11) v2.toNatClampNeg) = 0 → mx_W m_X7_countFor (d + 1) 12 [.ref 6, .ref c, .int v2, .int (v3 + 1)] [] M Q) ∧ (¬ (mx_I M (c + 11) v2.toNatClampNeg) = 0 → (mx_W m_X7_countOne d 0 [.ref 6, .ref c, .int v2, .int v3, .retAddr 0, .retAddr 0, .retAddr 0, .retAddr 0] [] M (fun o M1 => mx_sh M1 = mx_sh M ∧ mx_R M1 = mx_R M ∧ (∃ x2 : Int32, o = .inl (some (.int x2)) ∧ (vp_in ((v2 * 10) + v3) 40 ∧ (∀ M3, M3 = mx_setI M1 (c + 12) (((v2 * 10) + v3).toNatClampNeg) x2 → mx_W m_X7_countFor (d + 1) 12 [.ref 6, .ref c, .int v2, .int (v3 + 1)] [] M3 Q))))))))))) :
    mx_W m_X7_countFor (d + 1) 12 [.ref 6, .ref c, .int v2, .int v3] [] M Q := by
  refine mx_iload_n 3 (mx_da t_X7_countFor 8 rfl) rfl rfl rfl ?_
  refine mx_aload_n 1 (mx_da t_X7_countFor 9 rfl) rfl rfl rfl rfl ?_
  refine mx_getI fs_RX7_36 rfl (cat_s T hc) (mx_da t_X7_countFor 10 rfl) rfl ?_
  refine mx_icmp_ge 53 (mx_da t_X7_countFor 11 rfl) rfl rfl (fun g9 => ?_) (fun g9 => ?_)
  · have h := h.1 g9
    refine mx_iinc 2 (v := v2 + 1) [.ref 6, .ref c, .int (v2 + 1), .int v3] (mx_da t_X7_countFor 32 rfl) rfl (by decide) rfl rfl rfl ?_
    refine mx_goto (n := 2) (mx_da t_X7_countFor 33 rfl) rfl ?_
    exact mx_wkn [.ref 6, .ref c, .int (v2 + 1), .retAddr 0] ⟨Or.inr rfl, Or.inr rfl, Or.inr rfl, Or.inl rfl, trivial⟩ h
  · have h := h.2 g9
    refine mx_aload_n 1 (mx_da t_X7_countFor 12 rfl) rfl rfl rfl rfl ?_
    refine mx_getR (c + 11) fs_RX7_39 rfl (cat_s T hc) (cat_r10 T hc) (mx_da t_X7_countFor 13 rfl) rfl ?_
    refine mx_iload_n 2 (mx_da t_X7_countFor 14 rfl) rfl rfl rfl ?_
    refine mx_zald (cat_a10 T hc) h.1 (mx_da t_X7_countFor 15 rfl) rfl ?_
    have h := h.2
    refine mx_if_eq 47 (mx_da t_X7_countFor 16 rfl) rfl rfl (fun g9 => ?_) (fun g9 => ?_)
    · have h := h.1 g9
      refine mx_iinc 3 (v := v3 + 1) [.ref 6, .ref c, .int v2, .int (v3 + 1)] (mx_da t_X7_countFor 30 rfl) rfl (by decide) rfl rfl rfl ?_
      refine mx_goto (n := 12) (mx_da t_X7_countFor 31 rfl) rfl ?_
      exact h
    · have h := h.2 g9
      refine mx_aload_n 1 (mx_da t_X7_countFor 17 rfl) rfl rfl rfl rfl ?_
      refine mx_getR (c + 12) fs_RX7_43 rfl (cat_s T hc) (cat_r11 T hc) (mx_da t_X7_countFor 18 rfl) rfl ?_
      refine mx_iload_n 2 (mx_da t_X7_countFor 19 rfl) rfl rfl rfl ?_
      refine mx_bipush (v := 10) (mx_da t_X7_countFor 20 rfl) rfl rfl ?_
      refine mx_imul (mx_da t_X7_countFor 21 rfl) rfl ?_
      refine mx_iload_n 3 (mx_da t_X7_countFor 22 rfl) rfl rfl rfl ?_
      refine mx_iadd (mx_da t_X7_countFor 23 rfl) rfl ?_
      refine mx_aload_n 0 (mx_da t_X7_countFor 24 rfl) rfl rfl rfl rfl ?_
      refine mx_aload_n 1 (mx_da t_X7_countFor 25 rfl) rfl rfl rfl rfl ?_
      refine mx_iload_n 2 (mx_da t_X7_countFor 26 rfl) rfl rfl rfl ?_
      refine mx_iload_n 3 (mx_da t_X7_countFor 27 rfl) rfl rfl rfl ?_
      refine mx_callV yX7_countOne m_X7_countOne [.ref c, .int v2, .int v3] mm_X7_countOne ml_RX7_46 im_X7_countOne se_X7_countOne (tp_s T 6 rfl) rfl rfl (Nat.le_of_ble_eq_true rfl) (mx_da t_X7_countFor 28 rfl) rfl (Nat.le_of_ble_eq_true rfl) rfl ?_
      refine mx_mono h ?_
      intro o M1 ho
      obtain ⟨e1, e2, ho⟩ := ho
      obtain ⟨x2, rfl, h⟩ := ho
      refine ⟨e1, ?_⟩
      have T := tp_of e1 e2 T
      clear e1 e2
      show mx_W m_X7_countFor (d + 1) 46 [.ref 6, .ref c, .int v2, .int v3] [.int x2, .int ((v2 * 10) + v3), .ref (c + 12)] M1 Q
      refine mx_iast (cat_a11 T hc) h.1 (mx_da t_X7_countFor 29 rfl) rfl ?_
      have h := h.2
      refine mx_gen (mx_setI M1 (c + 12) (((v2 * 10) + v3).toNatClampNeg) x2) (fun M3 e9 => ?_)
      have h := h _ e9
      have T : mx_Tp M3 := tp_e e9 T
      refine mx_iinc 3 (v := v3 + 1) [.ref 6, .ref c, .int v2, .int (v3 + 1)] (mx_da t_X7_countFor 30 rfl) rfl (by decide) rfl rfl rfl ?_
      refine mx_goto (n := 12) (mx_da t_X7_countFor 31 rfl) rfl ?_
      exact h
set_option maxHeartbeats 1000000 in
theorem x_X7_countOne_0 {d : Nat} {M : mx_M} {Q : mx_O → mx_M → Prop} (T : mx_Tp M) (c : Nat) (hc : mx_Cat c) (v2 : Int32) (v3 : Int32)
    (h : (∀ M1, M1 = mx_setI M 6 5 0 → (vp_in v2 4 ∧ mx_W m_X7_countOne (d + 1) 13 [.ref 6, .ref c, .int v2, .int v3, .int (mx_I M1 8 v2.toNatClampNeg), .retAddr 0, .retAddr 0, .retAddr 0] [] M1 Q))) :
    mx_W m_X7_countOne (d + 1) 0 [.ref 6, .ref c, .int v2, .int v3, .retAddr 0, .retAddr 0, .retAddr 0, .retAddr 0] [] M Q := by
  refine mx_aload_n 0 (mx_da t_X7_countOne 0 rfl) rfl rfl rfl rfl ?_
  refine mx_iconst (v := 0) (mx_da t_X7_countOne 1 rfl) rfl rfl ?_
  refine mx_putI fs_RX7_28 rfl (tp_s T 6 rfl) rfl rfl rfl (mx_da t_X7_countOne 2 rfl) rfl ?_
  refine mx_gen (mx_setI M 6 5 0) (fun M1 e9 => ?_)
  have h := h _ e9
  have T : mx_Tp M1 := tp_e e9 T
  refine mx_aload_n 0 (mx_da t_X7_countOne 3 rfl) rfl rfl rfl rfl ?_
  refine mx_getR 8 fs_RX7_15 rfl (tp_s T 6 rfl) (tp_r T 4 rfl) (mx_da t_X7_countOne 4 rfl) rfl ?_
  refine mx_iload_n 2 (mx_da t_X7_countOne 5 rfl) rfl rfl rfl ?_
  refine mx_iald (tp_s T 8 rfl) h.1 (mx_da t_X7_countOne 6 rfl) rfl ?_
  have h := h.2
  refine mx_istore 4 [.ref 6, .ref c, .int v2, .int v3, .int (mx_I M1 8 v2.toNatClampNeg), .retAddr 0, .retAddr 0, .retAddr 0] (mx_da t_X7_countOne 7 rfl) rfl (by decide) rfl ?_
  exact h
set_option maxHeartbeats 1000000 in
theorem x_X7_countOne_13 {d : Nat} {M : mx_M} {Q : mx_O → mx_M → Prop} (T : mx_Tp M) (c : Nat) (hc : mx_Cat c) (v2 : Int32) (v3 : Int32) (v4 : Int32)
    (h : (vp_in v2 4 ∧ (((mx_I M 9 v2.toNatClampNeg) ≤ v4 → (mx_W m_X7_pop d 0 [.ref 6] [] M (fun o M1 => mx_sh M1 = mx_sh M ∧ mx_R M1 = mx_R M ∧ (∃ x2 : Int32, o = .inl (some (.int x2)) ∧ Q (.inl (some (.int x2))) M1)))) ∧ (¬ (mx_I M 9 v2.toNatClampNeg) ≤ v4 → (((700 : Int32) ≤ v4 → (mx_W m_X7_pop d 0 [.ref 6] [] M (fun o M3 => mx_sh M3 = mx_sh M ∧ mx_R M3 = mx_R M ∧ (∃ x4 : Int32, o = .inl (some (.int x4)) ∧ Q (.inl (some (.int x4))) M3)))) ∧ (¬ (700 : Int32) ≤ v4 → (vp_in v4 700 ∧ (((mx_I M 7 v4.toNatClampNeg) < 0 → (((mx_I M 7 v4.toNatClampNeg) < (-4 : Int32) → ((¬ (mx_I M 7 v4.toNatClampNeg) = (-5 : Int32) → (mx_W m_X7_pop d 0 [.ref 6] [] M (fun o M5 => mx_sh M5 = mx_sh M ∧ mx_R M5 = mx_R M ∧ (∃ x6 : Int32, o = .inl (some (.int x6)) ∧ (mx_W m_X7_pop d 0 [.ref 6] [] M5 (fun o M7 => mx_sh M7 = mx_sh M5 ∧ mx_R M7 = mx_R M5 ∧ (∃ x8 : Int32, o = .inl (some (.int x8)) ∧ (mx_W m_X7_joined d 0 [.int (mx_I M 7 v4.toNatClampNeg), .int x8, .int x6] [] M7 (fun o M9 => mx_sh M9 = mx_sh M7 ∧ mx_R M9 = mx_R M7 ∧ (∃ x10 : Int32, o = .inl (some (.int x10)) ∧ (mx_W m_X7_push d 0 [.ref 6, .int x10] [] M9 (fun o M11 => mx_sh M11 = mx_sh M9 ∧ mx_R M11 = mx_R M9 ∧ (o = .inl none ∧ mx_W m_X7_countOne (d + 1) 13 [.ref 6, .ref c, .int v2, .int v3, .int (v4 + 1), .retAddr 0, .retAddr 0, .retAddr 0] [] M11 Q))))))))))))) ∧ ((mx_I M 7 v4.toNatClampNeg) = (-5 : Int32) → (mx_W m_X7_pop d 0 [.ref 6] [] M (fun o M12 => mx_sh M12 = mx_sh M ∧ mx_R M12 = mx_R M ∧ (∃ x13 : Int32, o = .inl (some (.int x13)) ∧ ((¬ x13 = 0 → (mx_W m_X7_push d 0 [.ref 6, .int 0] [] M12 (fun o M14 => mx_sh M14 = mx_sh M12 ∧ mx_R M14 = mx_R M12 ∧ (o = .inl none ∧ mx_W m_X7_countOne (d + 1) 13 [.ref 6, .ref c, .int v2, .int v3, .int (v4 + 1), .retAddr 0, .retAddr 0, .retAddr 0] [] M14 Q)))) ∧ (x13 = 0 → (mx_W m_X7_push d 0 [.ref 6, .int 1] [] M12 (fun o M15 => mx_sh M15 = mx_sh M12 ∧ mx_R M15 = mx_R M12 ∧ (o = .inl none ∧ mx_W m_X7_countOne (d + 1) 13 [.ref 6, .ref c, .int v2, .int v3, .int (v4 + 1), .retAddr 0, .retAddr 0, .retAddr 0] [] M15 Q))))))))))) ∧ (¬ (mx_I M 7 v4.toNatClampNeg) < (-4 : Int32) → (mx_W m_X7_valueOf d 0 [.ref c, .int v3, .int (mx_I M 7 v4.toNatClampNeg)] [] M (fun o M16 => mx_sh M16 = mx_sh M ∧ mx_R M16 = mx_R M ∧ (∃ x17 : Int32, o = .inl (some (.int x17)) ∧ (mx_W m_X7_push d 0 [.ref 6, .int x17] [] M16 (fun o M18 => mx_sh M18 = mx_sh M16 ∧ mx_R M18 = mx_R M16 ∧ (o = .inl none ∧ mx_W m_X7_countOne (d + 1) 13 [.ref 6, .ref c, .int v2, .int v3, .int (v4 + 1), .retAddr 0, .retAddr 0, .retAddr 0] [] M18 Q))))))))) ∧ (¬ (mx_I M 7 v4.toNatClampNeg) < 0 → (mx_W m_X7_push d 0 [.ref 6, .int (mx_I M 7 v4.toNatClampNeg)] [] M (fun o M19 => mx_sh M19 = mx_sh M ∧ mx_R M19 = mx_R M ∧ (o = .inl none ∧ mx_W m_X7_countOne (d + 1) 13 [.ref 6, .ref c, .int v2, .int v3, .int (v4 + 1), .retAddr 0, .retAddr 0, .retAddr 0] [] M19 Q)))))))))))) :
    mx_W m_X7_countOne (d + 1) 13 [.ref 6, .ref c, .int v2, .int v3, .int v4, .retAddr 0, .retAddr 0, .retAddr 0] [] M Q := by
  refine mx_iload 4 (mx_da t_X7_countOne 8 rfl) rfl rfl ?_
  refine mx_aload_n 0 (mx_da t_X7_countOne 9 rfl) rfl rfl rfl rfl ?_
  refine mx_getR 9 fs_RX7_18 rfl (tp_s T 6 rfl) (tp_r T 5 rfl) (mx_da t_X7_countOne 10 rfl) rfl ?_
  refine mx_iload_n 2 (mx_da t_X7_countOne 11 rfl) rfl rfl rfl ?_
  refine mx_iald (tp_s T 9 rfl) h.1 (mx_da t_X7_countOne 12 rfl) rfl ?_
  have h := h.2
  refine mx_icmp_ge 133 (mx_da t_X7_countOne 13 rfl) rfl rfl (fun g9 => ?_) (fun g9 => ?_)
  · have h := h.1 g9
    refine mx_aload_n 0 (mx_da t_X7_countOne 64 rfl) rfl rfl rfl rfl ?_
    refine mx_callV yX7_pop m_X7_pop [] mm_X7_pop ml_RX7_57 im_X7_pop se_X7_pop (tp_s T 6 rfl) rfl rfl (Nat.le_of_ble_eq_true rfl) (mx_da t_X7_countOne 65 rfl) rfl (Nat.le_of_ble_eq_true rfl) rfl ?_
    refine mx_mono h ?_
    intro o M1 ho
    obtain ⟨e1, e2, ho⟩ := ho
    obtain ⟨x2, rfl, h⟩ := ho
    refine ⟨e1, ?_⟩
    have T := tp_of e1 e2 T
    clear e1 e2
    show mx_W m_X7_countOne (d + 1) 137 [.ref 6, .ref c, .int v2, .int v3, .int v4, .retAddr 0, .retAddr 0, .retAddr 0] [.int x2] M1 Q
    exact mx_iret rfl (mx_da t_X7_countOne 66 rfl) h
  · have h := h.2 g9
    refine mx_iload 4 (mx_da t_X7_countOne 14 rfl) rfl rfl ?_
    refine mx_sipush (v := 700) (mx_da t_X7_countOne 15 rfl) rfl rfl ?_
    refine mx_icmp_ge 133 (mx_da t_X7_countOne 16 rfl) rfl rfl (fun g9 => ?_) (fun g9 => ?_)
    · have h := h.1 g9
      refine mx_aload_n 0 (mx_da t_X7_countOne 64 rfl) rfl rfl rfl rfl ?_
      refine mx_callV yX7_pop m_X7_pop [] mm_X7_pop ml_RX7_57 im_X7_pop se_X7_pop (tp_s T 6 rfl) rfl rfl (Nat.le_of_ble_eq_true rfl) (mx_da t_X7_countOne 65 rfl) rfl (Nat.le_of_ble_eq_true rfl) rfl ?_
      refine mx_mono h ?_
      intro o M3 ho
      obtain ⟨e1, e2, ho⟩ := ho
      obtain ⟨x4, rfl, h⟩ := ho
      refine ⟨e1, ?_⟩
      have T := tp_of e1 e2 T
      clear e1 e2
      show mx_W m_X7_countOne (d + 1) 137 [.ref 6, .ref c, .int v2, .int v3, .int v4, .retAddr 0, .retAddr 0, .retAddr 0] [.int x4] M3 Q
      exact mx_iret rfl (mx_da t_X7_countOne 66 rfl) h
    · have h := h.2 g9
      refine mx_aload_n 0 (mx_da t_X7_countOne 17 rfl) rfl rfl rfl rfl ?_
      refine mx_getR 7 fs_RX7_9 rfl (tp_s T 6 rfl) (tp_r T 3 rfl) (mx_da t_X7_countOne 18 rfl) rfl ?_
      refine mx_iload 4 (mx_da t_X7_countOne 19 rfl) rfl rfl ?_
      refine mx_iald (tp_s T 7 rfl) h.1 (mx_da t_X7_countOne 20 rfl) rfl ?_
      have h := h.2
      refine mx_istore 5 [.ref 6, .ref c, .int v2, .int v3, .int v4, .int (mx_I M 7 v4.toNatClampNeg), .retAddr 0, .retAddr 0] (mx_da t_X7_countOne 21 rfl) rfl (by decide) rfl ?_
      refine mx_iload 5 (mx_da t_X7_countOne 22 rfl) rfl rfl ?_
      refine mx_if_lt 55 (mx_da t_X7_countOne 23 rfl) rfl rfl (fun g9 => ?_) (fun g9 => ?_)
      · have h := h.1 g9
        refine mx_iload 5 (mx_da t_X7_countOne 28 rfl) rfl rfl ?_
        refine mx_bipush (v := (-4)) (mx_da t_X7_countOne 29 rfl) rfl rfl ?_
        refine mx_icmp_lt 76 (mx_da t_X7_countOne 30 rfl) rfl rfl (fun g9 => ?_) (fun g9 => ?_)
        · have h := h.1 g9
          refine mx_iload 5 (mx_da t_X7_countOne 38 rfl) rfl rfl ?_
          refine mx_bipush (v := (-5)) (mx_da t_X7_countOne 39 rfl) rfl rfl ?_
          refine mx_icmp_ne 102 (mx_da t_X7_countOne 40 rfl) rfl rfl (fun g9 => ?_) (fun g9 => ?_)
          · have h := h.1 g9
            refine mx_aload_n 0 (mx_da t_X7_countOne 50 rfl) rfl rfl rfl rfl ?_
            refine mx_callV yX7_pop m_X7_pop [] mm_X7_pop ml_RX7_57 im_X7_pop se_X7_pop (tp_s T 6 rfl) rfl rfl (Nat.le_of_ble_eq_true rfl) (mx_da t_X7_countOne 51 rfl) rfl (Nat.le_of_ble_eq_true rfl) rfl ?_
            refine mx_mono h ?_
            intro o M5 ho
            obtain ⟨e1, e2, ho⟩ := ho
            obtain ⟨x6, rfl, h⟩ := ho
            refine ⟨e1, ?_⟩
            have T := tp_of e1 e2 T
            clear e1 e2
            show mx_W m_X7_countOne (d + 1) 106 [.ref 6, .ref c, .int v2, .int v3, .int v4, .int (mx_I M 7 v4.toNatClampNeg), .retAddr 0, .retAddr 0] [.int x6] M5 Q
            refine mx_istore 6 [.ref 6, .ref c, .int v2, .int v3, .int v4, .int (mx_I M 7 v4.toNatClampNeg), .int x6, .retAddr 0] (mx_da t_X7_countOne 52 rfl) rfl (by decide) rfl ?_
            refine mx_aload_n 0 (mx_da t_X7_countOne 53 rfl) rfl rfl rfl rfl ?_
            refine mx_callV yX7_pop m_X7_pop [] mm_X7_pop ml_RX7_57 im_X7_pop se_X7_pop (tp_s T 6 rfl) rfl rfl (Nat.le_of_ble_eq_true rfl) (mx_da t_X7_countOne 54 rfl) rfl (Nat.le_of_ble_eq_true rfl) rfl ?_
            refine mx_mono h ?_
            intro o M7 ho
            obtain ⟨e1, e2, ho⟩ := ho
            obtain ⟨x8, rfl, h⟩ := ho
            refine ⟨e1, ?_⟩
            have T := tp_of e1 e2 T
            clear e1 e2
            show mx_W m_X7_countOne (d + 1) 112 [.ref 6, .ref c, .int v2, .int v3, .int v4, .int (mx_I M 7 v4.toNatClampNeg), .int x6, .retAddr 0] [.int x8] M7 Q
            refine mx_istore 7 [.ref 6, .ref c, .int v2, .int v3, .int v4, .int (mx_I M 7 v4.toNatClampNeg), .int x6, .int x8] (mx_da t_X7_countOne 55 rfl) rfl (by decide) rfl ?_
            refine mx_aload_n 0 (mx_da t_X7_countOne 56 rfl) rfl rfl rfl rfl ?_
            refine mx_iload 5 (mx_da t_X7_countOne 57 rfl) rfl rfl ?_
            refine mx_iload 7 (mx_da t_X7_countOne 58 rfl) rfl rfl ?_
            refine mx_iload 6 (mx_da t_X7_countOne 59 rfl) rfl rfl ?_
            refine mx_callS yX7_joined m_X7_joined [.int (mx_I M 7 v4.toNatClampNeg), .int x8, .int x6] mm_X7_joined ml_RX7_61 st_X7_joined rfl (Nat.le_of_ble_eq_true rfl) (mx_da t_X7_countOne 60 rfl) rfl (Nat.le_of_ble_eq_true rfl) rfl ?_
            refine mx_mono h ?_
            intro o M9 ho
            obtain ⟨e1, e2, ho⟩ := ho
            obtain ⟨x10, rfl, h⟩ := ho
            refine ⟨e1, ?_⟩
            have T := tp_of e1 e2 T
            clear e1 e2
            show mx_W m_X7_countOne (d + 1) 124 [.ref 6, .ref c, .int v2, .int v3, .int v4, .int (mx_I M 7 v4.toNatClampNeg), .int x6, .int x8] [.int x10, .ref 6] M9 Q
            refine mx_callV yX7_push m_X7_push [.int x10] mm_X7_push ml_RX7_50 im_X7_push se_X7_push (tp_s T 6 rfl) rfl rfl (Nat.le_of_ble_eq_true rfl) (mx_da t_X7_countOne 61 rfl) rfl (Nat.le_of_ble_eq_true rfl) rfl ?_
            refine mx_mono h ?_
            intro o M11 ho
            obtain ⟨e1, e2, ho⟩ := ho
            obtain ⟨rfl, h⟩ := ho
            refine ⟨e1, ?_⟩
            have T := tp_of e1 e2 T
            clear e1 e2
            show mx_W m_X7_countOne (d + 1) 127 [.ref 6, .ref c, .int v2, .int v3, .int v4, .int (mx_I M 7 v4.toNatClampNeg), .int x6, .int x8] [] M11 Q
            refine mx_iinc 4 (v := v4 + 1) [.ref 6, .ref c, .int v2, .int v3, .int (v4 + 1), .int (mx_I M 7 v4.toNatClampNeg), .int x6, .int x8] (mx_da t_X7_countOne 62 rfl) rfl (by decide) rfl rfl rfl ?_
            refine mx_goto (n := 13) (mx_da t_X7_countOne 63 rfl) rfl ?_
            exact mx_wkn [.ref 6, .ref c, .int v2, .int v3, .int (v4 + 1), .retAddr 0, .retAddr 0, .retAddr 0] ⟨Or.inr rfl, Or.inr rfl, Or.inr rfl, Or.inr rfl, Or.inr rfl, Or.inl rfl, Or.inl rfl, Or.inl rfl, trivial⟩ h
          · have h := h.2 g9
            refine mx_aload_n 0 (mx_da t_X7_countOne 41 rfl) rfl rfl rfl rfl ?_
            refine mx_aload_n 0 (mx_da t_X7_countOne 42 rfl) rfl rfl rfl rfl ?_
            refine mx_callV yX7_pop m_X7_pop [] mm_X7_pop ml_RX7_57 im_X7_pop se_X7_pop (tp_s T 6 rfl) rfl rfl (Nat.le_of_ble_eq_true rfl) (mx_da t_X7_countOne 43 rfl) rfl (Nat.le_of_ble_eq_true rfl) rfl ?_
            refine mx_mono h ?_
            intro o M12 ho
            obtain ⟨e1, e2, ho⟩ := ho
            obtain ⟨x13, rfl, h⟩ := ho
            refine ⟨e1, ?_⟩
            have T := tp_of e1 e2 T
            clear e1 e2
            show mx_W m_X7_countOne (d + 1) 88 [.ref 6, .ref c, .int v2, .int v3, .int v4, .int (mx_I M 7 v4.toNatClampNeg), .retAddr 0, .retAddr 0] [.int x13, .ref 6] M12 Q
            refine mx_if_ne 95 (mx_da t_X7_countOne 44 rfl) rfl rfl (fun g9 => ?_) (fun g9 => ?_)
            · have h := h.1 g9
              refine mx_iconst (v := 0) (mx_da t_X7_countOne 47 rfl) rfl rfl ?_
              refine mx_callV yX7_push m_X7_push [.int 0] mm_X7_push ml_RX7_50 im_X7_push se_X7_push (tp_s T 6 rfl) rfl rfl (Nat.le_of_ble_eq_true rfl) (mx_da t_X7_countOne 48 rfl) rfl (Nat.le_of_ble_eq_true rfl) rfl ?_
              refine mx_mono h ?_
              intro o M14 ho
              obtain ⟨e1, e2, ho⟩ := ho
              obtain ⟨rfl, h⟩ := ho
              refine ⟨e1, ?_⟩
              have T := tp_of e1 e2 T
              clear e1 e2
              show mx_W m_X7_countOne (d + 1) 99 [.ref 6, .ref c, .int v2, .int v3, .int v4, .int (mx_I M 7 v4.toNatClampNeg), .retAddr 0, .retAddr 0] [] M14 Q
              refine mx_goto (n := 127) (mx_da t_X7_countOne 49 rfl) rfl ?_
              refine mx_iinc 4 (v := v4 + 1) [.ref 6, .ref c, .int v2, .int v3, .int (v4 + 1), .int (mx_I M 7 v4.toNatClampNeg), .retAddr 0, .retAddr 0] (mx_da t_X7_countOne 62 rfl) rfl (by decide) rfl rfl rfl ?_
              refine mx_goto (n := 13) (mx_da t_X7_countOne 63 rfl) rfl ?_
              exact mx_wkn [.ref 6, .ref c, .int v2, .int v3, .int (v4 + 1), .retAddr 0, .retAddr 0, .retAddr 0] ⟨Or.inr rfl, Or.inr rfl, Or.inr rfl, Or.inr rfl, Or.inr rfl, Or.inl rfl, Or.inr rfl, Or.inr rfl, trivial⟩ h
            · have h := h.2 g9
              refine mx_iconst (v := 1) (mx_da t_X7_countOne 45 rfl) rfl rfl ?_
              refine mx_goto (n := 96) (mx_da t_X7_countOne 46 rfl) rfl ?_
              refine mx_callV yX7_push m_X7_push [.int 1] mm_X7_push ml_RX7_50 im_X7_push se_X7_push (tp_s T 6 rfl) rfl rfl (Nat.le_of_ble_eq_true rfl) (mx_da t_X7_countOne 48 rfl) rfl (Nat.le_of_ble_eq_true rfl) rfl ?_
              refine mx_mono h ?_
              intro o M15 ho
              obtain ⟨e1, e2, ho⟩ := ho
              obtain ⟨rfl, h⟩ := ho
              refine ⟨e1, ?_⟩
              have T := tp_of e1 e2 T
              clear e1 e2
              show mx_W m_X7_countOne (d + 1) 99 [.ref 6, .ref c, .int v2, .int v3, .int v4, .int (mx_I M 7 v4.toNatClampNeg), .retAddr 0, .retAddr 0] [] M15 Q
              refine mx_goto (n := 127) (mx_da t_X7_countOne 49 rfl) rfl ?_
              refine mx_iinc 4 (v := v4 + 1) [.ref 6, .ref c, .int v2, .int v3, .int (v4 + 1), .int (mx_I M 7 v4.toNatClampNeg), .retAddr 0, .retAddr 0] (mx_da t_X7_countOne 62 rfl) rfl (by decide) rfl rfl rfl ?_
              refine mx_goto (n := 13) (mx_da t_X7_countOne 63 rfl) rfl ?_
              exact mx_wkn [.ref 6, .ref c, .int v2, .int v3, .int (v4 + 1), .retAddr 0, .retAddr 0, .retAddr 0] ⟨Or.inr rfl, Or.inr rfl, Or.inr rfl, Or.inr rfl, Or.inr rfl, Or.inl rfl, Or.inr rfl, Or.inr rfl, trivial⟩ h
        · have h := h.2 g9
          refine mx_aload_n 0 (mx_da t_X7_countOne 31 rfl) rfl rfl rfl rfl ?_
          refine mx_aload_n 1 (mx_da t_X7_countOne 32 rfl) rfl rfl rfl rfl ?_
          refine mx_iload_n 3 (mx_da t_X7_countOne 33 rfl) rfl rfl rfl ?_
          refine mx_iload 5 (mx_da t_X7_countOne 34 rfl) rfl rfl ?_
          refine mx_callS yX7_valueOf m_X7_valueOf [.ref c, .int v3, .int (mx_I M 7 v4.toNatClampNeg)] mm_X7_valueOf ml_RX7_54 st_X7_valueOf rfl (Nat.le_of_ble_eq_true rfl) (mx_da t_X7_countOne 35 rfl) rfl (Nat.le_of_ble_eq_true rfl) rfl ?_
          refine mx_mono h ?_
          intro o M16 ho
          obtain ⟨e1, e2, ho⟩ := ho
          obtain ⟨x17, rfl, h⟩ := ho
          refine ⟨e1, ?_⟩
          have T := tp_of e1 e2 T
          clear e1 e2
          show mx_W m_X7_countOne (d + 1) 70 [.ref 6, .ref c, .int v2, .int v3, .int v4, .int (mx_I M 7 v4.toNatClampNeg), .retAddr 0, .retAddr 0] [.int x17, .ref 6] M16 Q
          refine mx_callV yX7_push m_X7_push [.int x17] mm_X7_push ml_RX7_50 im_X7_push se_X7_push (tp_s T 6 rfl) rfl rfl (Nat.le_of_ble_eq_true rfl) (mx_da t_X7_countOne 36 rfl) rfl (Nat.le_of_ble_eq_true rfl) rfl ?_
          refine mx_mono h ?_
          intro o M18 ho
          obtain ⟨e1, e2, ho⟩ := ho
          obtain ⟨rfl, h⟩ := ho
          refine ⟨e1, ?_⟩
          have T := tp_of e1 e2 T
          clear e1 e2
          show mx_W m_X7_countOne (d + 1) 73 [.ref 6, .ref c, .int v2, .int v3, .int v4, .int (mx_I M 7 v4.toNatClampNeg), .retAddr 0, .retAddr 0] [] M18 Q
          refine mx_goto (n := 127) (mx_da t_X7_countOne 37 rfl) rfl ?_
          refine mx_iinc 4 (v := v4 + 1) [.ref 6, .ref c, .int v2, .int v3, .int (v4 + 1), .int (mx_I M 7 v4.toNatClampNeg), .retAddr 0, .retAddr 0] (mx_da t_X7_countOne 62 rfl) rfl (by decide) rfl rfl rfl ?_
          refine mx_goto (n := 13) (mx_da t_X7_countOne 63 rfl) rfl ?_
          exact mx_wkn [.ref 6, .ref c, .int v2, .int v3, .int (v4 + 1), .retAddr 0, .retAddr 0, .retAddr 0] ⟨Or.inr rfl, Or.inr rfl, Or.inr rfl, Or.inr rfl, Or.inr rfl, Or.inl rfl, Or.inr rfl, Or.inr rfl, trivial⟩ h
      · have h := h.2 g9
        refine mx_aload_n 0 (mx_da t_X7_countOne 24 rfl) rfl rfl rfl rfl ?_
        refine mx_iload 5 (mx_da t_X7_countOne 25 rfl) rfl rfl ?_
        refine mx_callV yX7_push m_X7_push [.int (mx_I M 7 v4.toNatClampNeg)] mm_X7_push ml_RX7_50 im_X7_push se_X7_push (tp_s T 6 rfl) rfl rfl (Nat.le_of_ble_eq_true rfl) (mx_da t_X7_countOne 26 rfl) rfl (Nat.le_of_ble_eq_true rfl) rfl ?_
        refine mx_mono h ?_
        intro o M19 ho
        obtain ⟨e1, e2, ho⟩ := ho
        obtain ⟨rfl, h⟩ := ho
        refine ⟨e1, ?_⟩
        have T := tp_of e1 e2 T
        clear e1 e2
        show mx_W m_X7_countOne (d + 1) 52 [.ref 6, .ref c, .int v2, .int v3, .int v4, .int (mx_I M 7 v4.toNatClampNeg), .retAddr 0, .retAddr 0] [] M19 Q
        refine mx_goto (n := 127) (mx_da t_X7_countOne 27 rfl) rfl ?_
        refine mx_iinc 4 (v := v4 + 1) [.ref 6, .ref c, .int v2, .int v3, .int (v4 + 1), .int (mx_I M 7 v4.toNatClampNeg), .retAddr 0, .retAddr 0] (mx_da t_X7_countOne 62 rfl) rfl (by decide) rfl rfl rfl ?_
        refine mx_goto (n := 13) (mx_da t_X7_countOne 63 rfl) rfl ?_
        exact mx_wkn [.ref 6, .ref c, .int v2, .int v3, .int (v4 + 1), .retAddr 0, .retAddr 0, .retAddr 0] ⟨Or.inr rfl, Or.inr rfl, Or.inr rfl, Or.inr rfl, Or.inr rfl, Or.inl rfl, Or.inr rfl, Or.inr rfl, trivial⟩ h
set_option maxHeartbeats 1000000 in
theorem x_X7_push_0 {d : Nat} {M : mx_M} {Q : mx_O → mx_M → Prop} (T : mx_Tp M) (v1 : Int32)
    (h : (((64 : Int32) ≤ (mx_I M 6 5) → Q (.inl none) M) ∧ (¬ (64 : Int32) ≤ (mx_I M 6 5) → (vp_in (mx_I M 6 5) 64 ∧ (∀ M1, M1 = mx_setI M 10 ((mx_I M 6 5).toNatClampNeg) v1 → (∀ M2, M2 = mx_setI M1 6 5 ((mx_I M1 6 5) + 1) → Q (.inl none) M2)))))) :
    mx_W m_X7_push d 0 [.ref 6, .int v1] [] M Q := by
  refine mx_aload_n 0 (mx_da t_X7_push 0 rfl) rfl rfl rfl rfl ?_
  refine mx_getI fs_RX7_28 rfl (tp_s T 6 rfl) (mx_da t_X7_push 1 rfl) rfl ?_
  refine mx_bipush (v := 64) (mx_da t_X7_push 2 rfl) rfl rfl ?_
  refine mx_icmp_ge 29 (mx_da t_X7_push 3 rfl) rfl rfl (fun g9 => ?_) (fun g9 => ?_)
  · have h := h.1 g9
    exact mx_vret rfl (mx_da t_X7_push 16 rfl) h
  · have h := h.2 g9
    refine mx_aload_n 0 (mx_da t_X7_push 4 rfl) rfl rfl rfl rfl ?_
    refine mx_getR 10 fs_RX7_21 rfl (tp_s T 6 rfl) (tp_r T 6 rfl) (mx_da t_X7_push 5 rfl) rfl ?_
    refine mx_aload_n 0 (mx_da t_X7_push 6 rfl) rfl rfl rfl rfl ?_
    refine mx_getI fs_RX7_28 rfl (tp_s T 6 rfl) (mx_da t_X7_push 7 rfl) rfl ?_
    refine mx_iload_n 1 (mx_da t_X7_push 8 rfl) rfl rfl rfl ?_
    refine mx_iast (tp_s T 10 rfl) h.1 (mx_da t_X7_push 9 rfl) rfl ?_
    have h := h.2
    refine mx_gen (mx_setI M 10 ((mx_I M 6 5).toNatClampNeg) v1) (fun M1 e9 => ?_)
    have h := h _ e9
    have T : mx_Tp M1 := tp_e e9 T
    refine mx_aload_n 0 (mx_da t_X7_push 10 rfl) rfl rfl rfl rfl ?_
    refine mx_dup (mx_da t_X7_push 11 rfl) rfl rfl ?_
    refine mx_getI fs_RX7_28 rfl (tp_s T 6 rfl) (mx_da t_X7_push 12 rfl) rfl ?_
    refine mx_iconst (v := 1) (mx_da t_X7_push 13 rfl) rfl rfl ?_
    refine mx_iadd (mx_da t_X7_push 14 rfl) rfl ?_
    refine mx_putI fs_RX7_28 rfl (tp_s T 6 rfl) rfl rfl rfl (mx_da t_X7_push 15 rfl) rfl ?_
    refine mx_gen (mx_setI M1 6 5 ((mx_I M1 6 5) + 1)) (fun M2 e9 => ?_)
    have h := h _ e9
    have T : mx_Tp M2 := tp_e e9 T
    exact mx_vret rfl (mx_da t_X7_push 16 rfl) h
set_option maxHeartbeats 1000000 in
theorem x_X7_pop_0 {d : Nat} {M : mx_M} {Q : mx_O → mx_M → Prop} (T : mx_Tp M) 
    (h : ((¬ (mx_I M 6 5) = 0 → (∀ M1, M1 = mx_setI M 6 5 ((mx_I M 6 5) - 1) → (vp_in (mx_I M1 6 5) 64 ∧ Q (.inl (some (.int (mx_I M1 10 (mx_I M1 6 5).toNatClampNeg)))) M1))) ∧ ((mx_I M 6 5) = 0 → Q (.inl (some (.int 0))) M))) :
    mx_W m_X7_pop d 0 [.ref 6] [] M Q := by
  refine mx_aload_n 0 (mx_da t_X7_pop 0 rfl) rfl rfl rfl rfl ?_
  refine mx_getI fs_RX7_28 rfl (tp_s T 6 rfl) (mx_da t_X7_pop 1 rfl) rfl ?_
  refine mx_if_ne 9 (mx_da t_X7_pop 2 rfl) rfl rfl (fun g9 => ?_) (fun g9 => ?_)
  · have h := h.1 g9
    refine mx_aload_n 0 (mx_da t_X7_pop 5 rfl) rfl rfl rfl rfl ?_
    refine mx_dup (mx_da t_X7_pop 6 rfl) rfl rfl ?_
    refine mx_getI fs_RX7_28 rfl (tp_s T 6 rfl) (mx_da t_X7_pop 7 rfl) rfl ?_
    refine mx_iconst (v := 1) (mx_da t_X7_pop 8 rfl) rfl rfl ?_
    refine mx_isub (mx_da t_X7_pop 9 rfl) rfl ?_
    refine mx_putI fs_RX7_28 rfl (tp_s T 6 rfl) rfl rfl rfl (mx_da t_X7_pop 10 rfl) rfl ?_
    refine mx_gen (mx_setI M 6 5 ((mx_I M 6 5) - 1)) (fun M1 e9 => ?_)
    have h := h _ e9
    have T : mx_Tp M1 := tp_e e9 T
    refine mx_aload_n 0 (mx_da t_X7_pop 11 rfl) rfl rfl rfl rfl ?_
    refine mx_getR 10 fs_RX7_21 rfl (tp_s T 6 rfl) (tp_r T 6 rfl) (mx_da t_X7_pop 12 rfl) rfl ?_
    refine mx_aload_n 0 (mx_da t_X7_pop 13 rfl) rfl rfl rfl rfl ?_
    refine mx_getI fs_RX7_28 rfl (tp_s T 6 rfl) (mx_da t_X7_pop 14 rfl) rfl ?_
    refine mx_iald (tp_s T 10 rfl) h.1 (mx_da t_X7_pop 15 rfl) rfl ?_
    have h := h.2
    exact mx_iret rfl (mx_da t_X7_pop 16 rfl) h
  · have h := h.2 g9
    refine mx_iconst (v := 0) (mx_da t_X7_pop 3 rfl) rfl rfl ?_
    exact mx_iret rfl (mx_da t_X7_pop 4 rfl) h
set_option maxHeartbeats 1000000 in
theorem x_X7_valueOf_0 {d : Nat} {M : mx_M} {Q : mx_O → mx_M → Prop} (T : mx_Tp M) (c : Nat) (hc : mx_Cat c) (v1 : Int32) (v2 : Int32)
    (h : ((v2 = (-3) → (vp_in v1 10 ∧ Q (.inl (some (.int (mx_I M (c + 3) v1.toNatClampNeg)))) M)) ∧ (v2 = (-2) → (vp_in v1 10 ∧ Q (.inl (some (.int (mx_I M (c + 2) v1.toNatClampNeg)))) M)) ∧ (v2 = (-1) → (vp_in v1 10 ∧ Q (.inl (some (.int (mx_I M (c + 1) v1.toNatClampNeg)))) M)) ∧ (¬ v2 = (-3) → ¬ v2 = (-2) → ¬ v2 = (-1) → Q (.inl (some (.int v1))) M))) :
    mx_W m_X7_valueOf d 0 [.ref c, .int v1, .int v2] [] M Q := by
  refine mx_iload_n 2 (mx_da t_X7_valueOf 0 rfl) rfl rfl rfl ?_
  by_cases hc0 : v2 = (-3)
  · have h := h.1 hc0
    refine mx_tsIn (n := 42) (-3) hc0 (mx_da t_X7_valueOf 1 rfl) (by decide) (by decide) rfl rfl ?_
    refine mx_aload_n 0 (mx_da t_X7_valueOf 12 rfl) rfl rfl rfl rfl ?_
    refine mx_getR (c + 3) fs_RX7_71 rfl (cat_s T hc) (cat_r2 T hc) (mx_da t_X7_valueOf 13 rfl) rfl ?_
    refine mx_iload_n 1 (mx_da t_X7_valueOf 14 rfl) rfl rfl rfl ?_
    refine mx_iald (cat_a2 T hc) h.1 (mx_da t_X7_valueOf 15 rfl) rfl ?_
    have h := h.2
    exact mx_iret rfl (mx_da t_X7_valueOf 16 rfl) h
  by_cases hc1 : v2 = (-2)
  · have h := h.2.1 hc1
    refine mx_tsIn (n := 35) (-2) hc1 (mx_da t_X7_valueOf 1 rfl) (by decide) (by decide) rfl rfl ?_
    refine mx_aload_n 0 (mx_da t_X7_valueOf 7 rfl) rfl rfl rfl rfl ?_
    refine mx_getR (c + 2) fs_RX7_68 rfl (cat_s T hc) (cat_r1 T hc) (mx_da t_X7_valueOf 8 rfl) rfl ?_
    refine mx_iload_n 1 (mx_da t_X7_valueOf 9 rfl) rfl rfl rfl ?_
    refine mx_iald (cat_a1 T hc) h.1 (mx_da t_X7_valueOf 10 rfl) rfl ?_
    have h := h.2
    exact mx_iret rfl (mx_da t_X7_valueOf 11 rfl) h
  by_cases hc2 : v2 = (-1)
  · have h := h.2.2.1 hc2
    refine mx_tsIn (n := 28) (-1) hc2 (mx_da t_X7_valueOf 1 rfl) (by decide) (by decide) rfl rfl ?_
    refine mx_aload_n 0 (mx_da t_X7_valueOf 2 rfl) rfl rfl rfl rfl ?_
    refine mx_getR (c + 1) fs_RX7_65 rfl (cat_s T hc) (cat_r0 T hc) (mx_da t_X7_valueOf 3 rfl) rfl ?_
    refine mx_iload_n 1 (mx_da t_X7_valueOf 4 rfl) rfl rfl rfl ?_
    refine mx_iald (cat_a0 T hc) h.1 (mx_da t_X7_valueOf 5 rfl) rfl ?_
    have h := h.2
    exact mx_iret rfl (mx_da t_X7_valueOf 6 rfl) h
  have h := h.2.2.2 hc0 hc1 hc2
  refine mx_tsOut (n := 49) (mx_da t_X7_valueOf 1 rfl) (by have g0 := mx_ne (n := -3) rfl hc0; have g1 := mx_ne (n := -2) rfl hc1; have g2 := mx_ne (n := -1) rfl hc2; omega) rfl ?_
  refine mx_iload_n 1 (mx_da t_X7_valueOf 17 rfl) rfl rfl rfl ?_
  exact mx_iret rfl (mx_da t_X7_valueOf 18 rfl) h
set_option maxHeartbeats 1000000 in
theorem x_X7_joined_0 {d : Nat} {M : mx_M} {Q : mx_O → mx_M → Prop} (T : mx_Tp M) (v0 : Int32) (v1 : Int32) (v2 : Int32)
    (h : ((v0 = (-12) → Q (.inl (some (.int (v1 * v2)))) M) ∧ (v0 = (-11) → Q (.inl (some (.int (v1 - v2)))) M) ∧ (v0 = (-10) → Q (.inl (some (.int (v1 + v2)))) M) ∧ (v0 = (-9) → ((¬ v1 = v2 → Q (.inl (some (.int 0))) M) ∧ (v1 = v2 → Q (.inl (some (.int 1))) M))) ∧ (v0 = (-8) → ((v2 ≤ v1 → Q (.inl (some (.int 0))) M) ∧ (¬ v2 ≤ v1 → Q (.inl (some (.int 1))) M))) ∧ (v0 = (-7) → ((¬ v1 = 0 → Q (.inl (some (.int 1))) M) ∧ (v1 = 0 → ((v2 = 0 → Q (.inl (some (.int 0))) M) ∧ (¬ v2 = 0 → Q (.inl (some (.int 1))) M))))) ∧ (v0 = (-6) → ((v1 = 0 → Q (.inl (some (.int 0))) M) ∧ (¬ v1 = 0 → ((v2 = 0 → Q (.inl (some (.int 0))) M) ∧ (¬ v2 = 0 → Q (.inl (some (.int 1))) M))))) ∧ (¬ v0 = (-12) → ¬ v0 = (-11) → ¬ v0 = (-10) → ¬ v0 = (-9) → ¬ v0 = (-8) → ¬ v0 = (-7) → ¬ v0 = (-6) → ((¬ v2 = 0 → (¬ v2 = 0 ∧ Q (.inl (some (.int ((v1 : Int32) / v2)))) M)) ∧ (v2 = 0 → Q (.inl (some (.int 0))) M))))) :
    mx_W m_X7_joined d 0 [.int v0, .int v1, .int v2] [] M Q := by
  refine mx_iload_n 0 (mx_da t_X7_joined 0 rfl) rfl rfl rfl ?_
  by_cases hc0 : v0 = (-12)
  · have h := h.1 hc0
    refine mx_tsIn (n := 102) (-12) hc0 (mx_da t_X7_joined 1 rfl) (by decide) (by decide) rfl rfl ?_
    refine mx_iload_n 1 (mx_da t_X7_joined 40 rfl) rfl rfl rfl ?_
    refine mx_iload_n 2 (mx_da t_X7_joined 41 rfl) rfl rfl rfl ?_
    refine mx_imul (mx_da t_X7_joined 42 rfl) rfl ?_
    exact mx_iret rfl (mx_da t_X7_joined 43 rfl) h
  by_cases hc1 : v0 = (-11)
  · have h := h.2.1 hc1
    refine mx_tsIn (n := 98) (-11) hc1 (mx_da t_X7_joined 1 rfl) (by decide) (by decide) rfl rfl ?_
    refine mx_iload_n 1 (mx_da t_X7_joined 36 rfl) rfl rfl rfl ?_
    refine mx_iload_n 2 (mx_da t_X7_joined 37 rfl) rfl rfl rfl ?_
    refine mx_isub (mx_da t_X7_joined 38 rfl) rfl ?_
    exact mx_iret rfl (mx_da t_X7_joined 39 rfl) h
  by_cases hc2 : v0 = (-10)
  · have h := h.2.2.1 hc2
    refine mx_tsIn (n := 94) (-10) hc2 (mx_da t_X7_joined 1 rfl) (by decide) (by decide) rfl rfl ?_
    refine mx_iload_n 1 (mx_da t_X7_joined 32 rfl) rfl rfl rfl ?_
    refine mx_iload_n 2 (mx_da t_X7_joined 33 rfl) rfl rfl rfl ?_
    refine mx_iadd (mx_da t_X7_joined 34 rfl) rfl ?_
    exact mx_iret rfl (mx_da t_X7_joined 35 rfl) h
  by_cases hc3 : v0 = (-9)
  · have h := h.2.2.2.1 hc3
    refine mx_tsIn (n := 83) (-9) hc3 (mx_da t_X7_joined 1 rfl) (by decide) (by decide) rfl rfl ?_
    refine mx_iload_n 1 (mx_da t_X7_joined 25 rfl) rfl rfl rfl ?_
    refine mx_iload_n 2 (mx_da t_X7_joined 26 rfl) rfl rfl rfl ?_
    refine mx_icmp_ne 92 (mx_da t_X7_joined 27 rfl) rfl rfl (fun g9 => ?_) (fun g9 => ?_)
    · have h := h.1 g9
      refine mx_iconst (v := 0) (mx_da t_X7_joined 30 rfl) rfl rfl ?_
      exact mx_iret rfl (mx_da t_X7_joined 31 rfl) h
    · have h := h.2 g9
      refine mx_iconst (v := 1) (mx_da t_X7_joined 28 rfl) rfl rfl ?_
      refine mx_goto (n := 93) (mx_da t_X7_joined 29 rfl) rfl ?_
      exact mx_iret rfl (mx_da t_X7_joined 31 rfl) h
  by_cases hc4 : v0 = (-8)
  · have h := h.2.2.2.2.1 hc4
    refine mx_tsIn (n := 72) (-8) hc4 (mx_da t_X7_joined 1 rfl) (by decide) (by decide) rfl rfl ?_
    refine mx_iload_n 1 (mx_da t_X7_joined 18 rfl) rfl rfl rfl ?_
    refine mx_iload_n 2 (mx_da t_X7_joined 19 rfl) rfl rfl rfl ?_
    refine mx_icmp_ge 81 (mx_da t_X7_joined 20 rfl) rfl rfl (fun g9 => ?_) (fun g9 => ?_)
    · have h := h.1 g9
      refine mx_iconst (v := 0) (mx_da t_X7_joined 23 rfl) rfl rfl ?_
      exact mx_iret rfl (mx_da t_X7_joined 24 rfl) h
    · have h := h.2 g9
      refine mx_iconst (v := 1) (mx_da t_X7_joined 21 rfl) rfl rfl ?_
      refine mx_goto (n := 82) (mx_da t_X7_joined 22 rfl) rfl ?_
      exact mx_iret rfl (mx_da t_X7_joined 24 rfl) h
  by_cases hc5 : v0 = (-7)
  · have h := h.2.2.2.2.2.1 hc5
    refine mx_tsIn (n := 58) (-7) hc5 (mx_da t_X7_joined 1 rfl) (by decide) (by decide) rfl rfl ?_
    refine mx_iload_n 1 (mx_da t_X7_joined 10 rfl) rfl rfl rfl ?_
    refine mx_if_ne 66 (mx_da t_X7_joined 11 rfl) rfl rfl (fun g9 => ?_) (fun g9 => ?_)
    · have h := h.1 g9
      refine mx_iconst (v := 1) (mx_da t_X7_joined 14 rfl) rfl rfl ?_
      refine mx_goto (n := 71) (mx_da t_X7_joined 15 rfl) rfl ?_
      exact mx_iret rfl (mx_da t_X7_joined 17 rfl) h
    · have h := h.2 g9
      refine mx_iload_n 2 (mx_da t_X7_joined 12 rfl) rfl rfl rfl ?_
      refine mx_if_eq 70 (mx_da t_X7_joined 13 rfl) rfl rfl (fun g9 => ?_) (fun g9 => ?_)
      · have h := h.1 g9
        refine mx_iconst (v := 0) (mx_da t_X7_joined 16 rfl) rfl rfl ?_
        exact mx_iret rfl (mx_da t_X7_joined 17 rfl) h
      · have h := h.2 g9
        refine mx_iconst (v := 1) (mx_da t_X7_joined 14 rfl) rfl rfl ?_
        refine mx_goto (n := 71) (mx_da t_X7_joined 15 rfl) rfl ?_
        exact mx_iret rfl (mx_da t_X7_joined 17 rfl) h
  by_cases hc6 : v0 = (-6)
  · have h := h.2.2.2.2.2.2.1 hc6
    refine mx_tsIn (n := 44) (-6) hc6 (mx_da t_X7_joined 1 rfl) (by decide) (by decide) rfl rfl ?_
    refine mx_iload_n 1 (mx_da t_X7_joined 2 rfl) rfl rfl rfl ?_
    refine mx_if_eq 56 (mx_da t_X7_joined 3 rfl) rfl rfl (fun g9 => ?_) (fun g9 => ?_)
    · have h := h.1 g9
      refine mx_iconst (v := 0) (mx_da t_X7_joined 8 rfl) rfl rfl ?_
      exact mx_iret rfl (mx_da t_X7_joined 9 rfl) h
    · have h := h.2 g9
      refine mx_iload_n 2 (mx_da t_X7_joined 4 rfl) rfl rfl rfl ?_
      refine mx_if_eq 56 (mx_da t_X7_joined 5 rfl) rfl rfl (fun g9 => ?_) (fun g9 => ?_)
      · have h := h.1 g9
        refine mx_iconst (v := 0) (mx_da t_X7_joined 8 rfl) rfl rfl ?_
        exact mx_iret rfl (mx_da t_X7_joined 9 rfl) h
      · have h := h.2 g9
        refine mx_iconst (v := 1) (mx_da t_X7_joined 6 rfl) rfl rfl ?_
        refine mx_goto (n := 57) (mx_da t_X7_joined 7 rfl) rfl ?_
        exact mx_iret rfl (mx_da t_X7_joined 9 rfl) h
  have h := h.2.2.2.2.2.2.2 hc0 hc1 hc2 hc3 hc4 hc5 hc6
  refine mx_tsOut (n := 106) (mx_da t_X7_joined 1 rfl) (by have g0 := mx_ne (n := -12) rfl hc0; have g1 := mx_ne (n := -11) rfl hc1; have g2 := mx_ne (n := -10) rfl hc2; have g3 := mx_ne (n := -9) rfl hc3; have g4 := mx_ne (n := -8) rfl hc4; have g5 := mx_ne (n := -7) rfl hc5; have g6 := mx_ne (n := -6) rfl hc6; omega) rfl ?_
  refine mx_iload_n 2 (mx_da t_X7_joined 44 rfl) rfl rfl rfl ?_
  refine mx_if_ne 114 (mx_da t_X7_joined 45 rfl) rfl rfl (fun g9 => ?_) (fun g9 => ?_)
  · have h := h.1 g9
    refine mx_iload_n 1 (mx_da t_X7_joined 48 rfl) rfl rfl rfl ?_
    refine mx_iload_n 2 (mx_da t_X7_joined 49 rfl) rfl rfl rfl ?_
    refine mx_idiv (mx_da t_X7_joined 50 rfl) rfl h.1 ?_
    have h := h.2
    exact mx_iret rfl (mx_da t_X7_joined 51 rfl) h
  · have h := h.2 g9
    refine mx_iconst (v := 0) (mx_da t_X7_joined 46 rfl) rfl rfl ?_
    refine mx_goto (n := 117) (mx_da t_X7_joined 47 rfl) rfl ?_
    exact mx_iret rfl (mx_da t_X7_joined 51 rfl) h
set_option maxHeartbeats 1000000 in
theorem x_X8_open_0 {d : Nat} {M : mx_M} {Q : mx_O → mx_M → Prop} (T : mx_Tp M) (v1 : Int32)
    (h : (∀ M1, M1 = mx_setI M 3 1 v1 → (∀ M2, M2 = mx_setI M1 3 2 0 → (∀ M3, M3 = mx_setI M2 3 3 0 → (mx_W m_X8_step d 0 [.ref 3, .retAddr 0] [] M3 (fun o M4 => mx_sh M4 = mx_sh M3 ∧ mx_R M4 = mx_R M3 ∧ (o = .inl none ∧ Q (.inl none) M4))))))) :
    mx_W m_X8_open (d + 1) 0 [.ref 3, .int v1] [] M Q := by
  refine mx_aload_n 0 (mx_da t_X8_open 0 rfl) rfl rfl rfl rfl ?_
  refine mx_iload_n 1 (mx_da t_X8_open 1 rfl) rfl rfl rfl ?_
  refine mx_putI fs_RX8_18 rfl (tp_s T 3 rfl) rfl rfl rfl (mx_da t_X8_open 2 rfl) rfl ?_
  refine mx_gen (mx_setI M 3 1 v1) (fun M1 e9 => ?_)
  have h := h _ e9
  have T : mx_Tp M1 := tp_e e9 T
  refine mx_aload_n 0 (mx_da t_X8_open 3 rfl) rfl rfl rfl rfl ?_
  refine mx_iconst (v := 0) (mx_da t_X8_open 4 rfl) rfl rfl ?_
  refine mx_putI fs_RX8_22 rfl (tp_s T 3 rfl) rfl rfl rfl (mx_da t_X8_open 5 rfl) rfl ?_
  refine mx_gen (mx_setI M1 3 2 0) (fun M2 e9 => ?_)
  have h := h _ e9
  have T : mx_Tp M2 := tp_e e9 T
  refine mx_aload_n 0 (mx_da t_X8_open 6 rfl) rfl rfl rfl rfl ?_
  refine mx_iconst (v := 0) (mx_da t_X8_open 7 rfl) rfl rfl ?_
  refine mx_putI fs_RX8_25 rfl (tp_s T 3 rfl) rfl rfl rfl (mx_da t_X8_open 8 rfl) rfl ?_
  refine mx_gen (mx_setI M2 3 3 0) (fun M3 e9 => ?_)
  have h := h _ e9
  have T : mx_Tp M3 := tp_e e9 T
  refine mx_aload_n 0 (mx_da t_X8_open 9 rfl) rfl rfl rfl rfl ?_
  refine mx_callV yX8_step m_X8_step [] mm_X8_step ml_RX8_38 im_X8_step se_X8_step (tp_s T 3 rfl) rfl rfl (Nat.le_of_ble_eq_true rfl) (mx_da t_X8_open 10 rfl) rfl (Nat.le_of_ble_eq_true rfl) rfl ?_
  refine mx_mono h ?_
  intro o M4 ho
  obtain ⟨e1, e2, ho⟩ := ho
  obtain ⟨rfl, h⟩ := ho
  refine ⟨e1, ?_⟩
  have T := tp_of e1 e2 T
  clear e1 e2
  show mx_W m_X8_open (d + 1) 19 [.ref 3, .int v1] [] M4 Q
  exact mx_vret rfl (mx_da t_X8_open 11 rfl) h
set_option maxHeartbeats 1000000 in
theorem x_X8_step_0 {d : Nat} {M : mx_M} {Q : mx_O → mx_M → Prop} (T : mx_Tp M) 
    (h : (∀ M1, M1 = mx_setI M 3 2 ((mx_I M 3 2) + (mx_I M 3 3)) → mx_W m_X8_step (d + 1) 13 [.ref 3, .retAddr 0] [] M1 Q)) :
    mx_W m_X8_step (d + 1) 0 [.ref 3, .retAddr 0] [] M Q := by
  refine mx_aload_n 0 (mx_da t_X8_step 0 rfl) rfl rfl rfl rfl ?_
  refine mx_dup (mx_da t_X8_step 1 rfl) rfl rfl ?_
  refine mx_getI fs_RX8_22 rfl (tp_s T 3 rfl) (mx_da t_X8_step 2 rfl) rfl ?_
  refine mx_aload_n 0 (mx_da t_X8_step 3 rfl) rfl rfl rfl rfl ?_
  refine mx_getI fs_RX8_25 rfl (tp_s T 3 rfl) (mx_da t_X8_step 4 rfl) rfl ?_
  refine mx_iadd (mx_da t_X8_step 5 rfl) rfl ?_
  refine mx_putI fs_RX8_22 rfl (tp_s T 3 rfl) rfl rfl rfl (mx_da t_X8_step 6 rfl) rfl ?_
  refine mx_gen (mx_setI M 3 2 ((mx_I M 3 2) + (mx_I M 3 3))) (fun M1 e9 => ?_)
  have h := h _ e9
  have T : mx_Tp M1 := tp_e e9 T
  exact h
set_option maxHeartbeats 1000000 in
theorem x_X8_step_13 {d : Nat} {M : mx_M} {Q : mx_O → mx_M → Prop} (T : mx_Tp M) 
    (h : (((mx_I M 3 1) ≤ (mx_I M 3 2) → (∀ M1, M1 = mx_setI M 3 3 0 → (((mx_I M1 3 1) ≤ (mx_I M1 3 2) → (((mx_I M1 3 2) < (mx_I M1 3 1) → (mx_W m_X8_isLetter d 0 [.int (-1)] [] M1 (fun o M2 => mx_sh M2 = mx_sh M1 ∧ mx_R M2 = mx_R M1 ∧ (∃ x3 : Bool, o = .inl (some (.int (mx_b x3))) ∧ ((x3 = false → (mx_W m_X8_isDigit d 0 [.int (-1)] [] M2 (fun o M4 => mx_sh M4 = mx_sh M2 ∧ mx_R M4 = mx_R M2 ∧ (∃ x5 : Bool, o = .inl (some (.int (mx_b x5))) ∧ ((x5 = false → (mx_W m_X8_isMark d 0 [.int (-1)] [] M4 (fun o M6 => mx_sh M6 = mx_sh M4 ∧ mx_R M6 = mx_R M4 ∧ (∃ x7 : Bool, o = .inl (some (.int (mx_b x7))) ∧ ((x7 = false → (∀ M8, M8 = mx_setI M6 3 4 4 → (∀ M9, M9 = mx_setI M8 3 5 (-1) → (∀ M10, M10 = mx_setI M9 3 3 1 → Q (.inl none) M10)))) ∧ (x7 = true → (∀ M11, M11 = mx_setI M6 3 4 3 → (∀ M12, M12 = mx_setI M11 3 5 (-1) → (∀ M13, M13 = mx_setI M12 3 3 1 → Q (.inl none) M13))))))))) ∧ (x5 = true → (mx_W m_X8_scanNumber d 0 [.ref 3, .retAddr 0] [] M4 (fun o M14 => mx_sh M14 = mx_sh M4 ∧ mx_R M14 = mx_R M4 ∧ (o = .inl none ∧ Q (.inl none) M14))))))))) ∧ (x3 = true → (mx_W m_X8_scanWord d 0 [.ref 3, .retAddr 0] [] M2 (fun o M15 => mx_sh M15 = mx_sh M2 ∧ mx_R M15 = mx_R M2 ∧ (o = .inl none ∧ Q (.inl none) M15))))))))) ∧ (¬ (mx_I M1 3 2) < (mx_I M1 3 1) → (∀ M16, M16 = mx_setI M1 3 4 0 → Q (.inl none) M16)))) ∧ (¬ (mx_I M1 3 1) ≤ (mx_I M1 3 2) → (mx_W m_X6_signAt d 0 [.ref 4, .int (mx_I M1 3 2)] [] M1 (fun o M17 => mx_sh M17 = mx_sh M1 ∧ mx_R M17 = mx_R M1 ∧ (∃ x18 : Int32, o = .inl (some (.int x18)) ∧ (((mx_I M17 3 2) < (mx_I M17 3 1) → (mx_W m_X8_isLetter d 0 [.int x18] [] M17 (fun o M19 => mx_sh M19 = mx_sh M17 ∧ mx_R M19 = mx_R M17 ∧ (∃ x20 : Bool, o = .inl (some (.int (mx_b x20))) ∧ ((x20 = false → (mx_W m_X8_isDigit d 0 [.int x18] [] M19 (fun o M21 => mx_sh M21 = mx_sh M19 ∧ mx_R M21 = mx_R M19 ∧ (∃ x22 : Bool, o = .inl (some (.int (mx_b x22))) ∧ ((x22 = false → (mx_W m_X8_isMark d 0 [.int x18] [] M21 (fun o M23 => mx_sh M23 = mx_sh M21 ∧ mx_R M23 = mx_R M21 ∧ (∃ x24 : Bool, o = .inl (some (.int (mx_b x24))) ∧ ((x24 = false → (∀ M25, M25 = mx_setI M23 3 4 4 → (∀ M26, M26 = mx_setI M25 3 5 x18 → (∀ M27, M27 = mx_setI M26 3 3 1 → Q (.inl none) M27)))) ∧ (x24 = true → (∀ M28, M28 = mx_setI M23 3 4 3 → (∀ M29, M29 = mx_setI M28 3 5 x18 → (∀ M30, M30 = mx_setI M29 3 3 1 → Q (.inl none) M30))))))))) ∧ (x22 = true → (mx_W m_X8_scanNumber d 0 [.ref 3, .retAddr 0] [] M21 (fun o M31 => mx_sh M31 = mx_sh M21 ∧ mx_R M31 = mx_R M21 ∧ (o = .inl none ∧ Q (.inl none) M31))))))))) ∧ (x20 = true → (mx_W m_X8_scanWord d 0 [.ref 3, .retAddr 0] [] M19 (fun o M32 => mx_sh M32 = mx_sh M19 ∧ mx_R M32 = mx_R M19 ∧ (o = .inl none ∧ Q (.inl none) M32))))))))) ∧ (¬ (mx_I M17 3 2) < (mx_I M17 3 1) → (∀ M33, M33 = mx_setI M17 3 4 0 → Q (.inl none) M33)))))))))) ∧ (¬ (mx_I M 3 1) ≤ (mx_I M 3 2) → (mx_W m_X6_signAt d 0 [.ref 4, .int (mx_I M 3 2)] [] M (fun o M34 => mx_sh M34 = mx_sh M ∧ mx_R M34 = mx_R M ∧ (∃ x35 : Int32, o = .inl (some (.int x35)) ∧ (mx_W m_X8_isBlank d 0 [.int x35] [] M34 (fun o M36 => mx_sh M36 = mx_sh M34 ∧ mx_R M36 = mx_R M34 ∧ (∃ x37 : Bool, o = .inl (some (.int (mx_b x37))) ∧ ((x37 = false → (∀ M38, M38 = mx_setI M36 3 3 0 → (((mx_I M38 3 1) ≤ (mx_I M38 3 2) → (((mx_I M38 3 2) < (mx_I M38 3 1) → (mx_W m_X8_isLetter d 0 [.int (-1)] [] M38 (fun o M39 => mx_sh M39 = mx_sh M38 ∧ mx_R M39 = mx_R M38 ∧ (∃ x40 : Bool, o = .inl (some (.int (mx_b x40))) ∧ ((x40 = false → (mx_W m_X8_isDigit d 0 [.int (-1)] [] M39 (fun o M41 => mx_sh M41 = mx_sh M39 ∧ mx_R M41 = mx_R M39 ∧ (∃ x42 : Bool, o = .inl (some (.int (mx_b x42))) ∧ ((x42 = false → (mx_W m_X8_isMark d 0 [.int (-1)] [] M41 (fun o M43 => mx_sh M43 = mx_sh M41 ∧ mx_R M43 = mx_R M41 ∧ (∃ x44 : Bool, o = .inl (some (.int (mx_b x44))) ∧ ((x44 = false → (∀ M45, M45 = mx_setI M43 3 4 4 → (∀ M46, M46 = mx_setI M45 3 5 (-1) → (∀ M47, M47 = mx_setI M46 3 3 1 → Q (.inl none) M47)))) ∧ (x44 = true → (∀ M48, M48 = mx_setI M43 3 4 3 → (∀ M49, M49 = mx_setI M48 3 5 (-1) → (∀ M50, M50 = mx_setI M49 3 3 1 → Q (.inl none) M50))))))))) ∧ (x42 = true → (mx_W m_X8_scanNumber d 0 [.ref 3, .retAddr 0] [] M41 (fun o M51 => mx_sh M51 = mx_sh M41 ∧ mx_R M51 = mx_R M41 ∧ (o = .inl none ∧ Q (.inl none) M51))))))))) ∧ (x40 = true → (mx_W m_X8_scanWord d 0 [.ref 3, .retAddr 0] [] M39 (fun o M52 => mx_sh M52 = mx_sh M39 ∧ mx_R M52 = mx_R M39 ∧ (o = .inl none ∧ Q (.inl none) M52))))))))) ∧ (¬ (mx_I M38 3 2) < (mx_I M38 3 1) → (∀ M53, M53 = mx_setI M38 3 4 0 → Q (.inl none) M53)))) ∧ (¬ (mx_I M38 3 1) ≤ (mx_I M38 3 2) → (mx_W m_X6_signAt d 0 [.ref 4, .int (mx_I M38 3 2)] [] M38 (fun o M54 => mx_sh M54 = mx_sh M38 ∧ mx_R M54 = mx_R M38 ∧ (∃ x55 : Int32, o = .inl (some (.int x55)) ∧ (((mx_I M54 3 2) < (mx_I M54 3 1) → (mx_W m_X8_isLetter d 0 [.int x55] [] M54 (fun o M56 => mx_sh M56 = mx_sh M54 ∧ mx_R M56 = mx_R M54 ∧ (∃ x57 : Bool, o = .inl (some (.int (mx_b x57))) ∧ ((x57 = false → (mx_W m_X8_isDigit d 0 [.int x55] [] M56 (fun o M58 => mx_sh M58 = mx_sh M56 ∧ mx_R M58 = mx_R M56 ∧ (∃ x59 : Bool, o = .inl (some (.int (mx_b x59))) ∧ ((x59 = false → (mx_W m_X8_isMark d 0 [.int x55] [] M58 (fun o M60 => mx_sh M60 = mx_sh M58 ∧ mx_R M60 = mx_R M58 ∧ (∃ x61 : Bool, o = .inl (some (.int (mx_b x61))) ∧ ((x61 = false → (∀ M62, M62 = mx_setI M60 3 4 4 → (∀ M63, M63 = mx_setI M62 3 5 x55 → (∀ M64, M64 = mx_setI M63 3 3 1 → Q (.inl none) M64)))) ∧ (x61 = true → (∀ M65, M65 = mx_setI M60 3 4 3 → (∀ M66, M66 = mx_setI M65 3 5 x55 → (∀ M67, M67 = mx_setI M66 3 3 1 → Q (.inl none) M67))))))))) ∧ (x59 = true → (mx_W m_X8_scanNumber d 0 [.ref 3, .retAddr 0] [] M58 (fun o M68 => mx_sh M68 = mx_sh M58 ∧ mx_R M68 = mx_R M58 ∧ (o = .inl none ∧ Q (.inl none) M68))))))))) ∧ (x57 = true → (mx_W m_X8_scanWord d 0 [.ref 3, .retAddr 0] [] M56 (fun o M69 => mx_sh M69 = mx_sh M56 ∧ mx_R M69 = mx_R M56 ∧ (o = .inl none ∧ Q (.inl none) M69))))))))) ∧ (¬ (mx_I M54 3 2) < (mx_I M54 3 1) → (∀ M70, M70 = mx_setI M54 3 4 0 → Q (.inl none) M70)))))))))) ∧ (x37 = true → (∀ M71, M71 = mx_setI M36 3 2 ((mx_I M36 3 2) + 1) → mx_W m_X8_step (d + 1) 13 [.ref 3, .retAddr 0] [] M71 Q)))))))))))) :
    mx_W m_X8_step (d + 1) 13 [.ref 3, .retAddr 0] [] M Q := by
  refine mx_aload_n 0 (mx_da t_X8_step 7 rfl) rfl rfl rfl rfl ?_
  refine mx_getI fs_RX8_22 rfl (tp_s T 3 rfl) (mx_da t_X8_step 8 rfl) rfl ?_
  refine mx_aload_n 0 (mx_da t_X8_step 9 rfl) rfl rfl rfl rfl ?_
  refine mx_getI fs_RX8_18 rfl (tp_s T 3 rfl) (mx_da t_X8_step 10 rfl) rfl ?_
  refine mx_icmp_ge 54 (mx_da t_X8_step 11 rfl) rfl rfl (fun g9 => ?_) (fun g9 => ?_)
  · have h := h.1 g9
    refine mx_aload_n 0 (mx_da t_X8_step 26 rfl) rfl rfl rfl rfl ?_
    refine mx_iconst (v := 0) (mx_da t_X8_step 27 rfl) rfl rfl ?_
    refine mx_putI fs_RX8_25 rfl (tp_s T 3 rfl) rfl rfl rfl (mx_da t_X8_step 28 rfl) rfl ?_
    refine mx_gen (mx_setI M 3 3 0) (fun M1 e9 => ?_)
    have h := h _ e9
    have T : mx_Tp M1 := tp_e e9 T
    refine mx_aload_n 0 (mx_da t_X8_step 29 rfl) rfl rfl rfl rfl ?_
    refine mx_getI fs_RX8_22 rfl (tp_s T 3 rfl) (mx_da t_X8_step 30 rfl) rfl ?_
    refine mx_aload_n 0 (mx_da t_X8_step 31 rfl) rfl rfl rfl rfl ?_
    refine mx_getI fs_RX8_18 rfl (tp_s T 3 rfl) (mx_da t_X8_step 32 rfl) rfl ?_
    refine mx_icmp_ge 84 (mx_da t_X8_step 33 rfl) rfl rfl (fun g9 => ?_) (fun g9 => ?_)
    · have h := h.1 g9
      refine mx_iconst (v := (-1)) (mx_da t_X8_step 40 rfl) rfl rfl ?_
      refine mx_istore_n 1 [.ref 3, .int (-1)] (mx_da t_X8_step 41 rfl) rfl rfl (by decide) rfl ?_
      refine mx_aload_n 0 (mx_da t_X8_step 42 rfl) rfl rfl rfl rfl ?_
      refine mx_getI fs_RX8_22 rfl (tp_s T 3 rfl) (mx_da t_X8_step 43 rfl) rfl ?_
      refine mx_aload_n 0 (mx_da t_X8_step 44 rfl) rfl rfl rfl rfl ?_
      refine mx_getI fs_RX8_18 rfl (tp_s T 3 rfl) (mx_da t_X8_step 45 rfl) rfl ?_
      refine mx_icmp_lt 105 (mx_da t_X8_step 46 rfl) rfl rfl (fun g9 => ?_) (fun g9 => ?_)
      · have h := h.1 g9
        refine mx_iload_n 1 (mx_da t_X8_step 51 rfl) rfl rfl rfl ?_
        refine mx_callS yX8_isLetter m_X8_isLetter [.int (-1)] mm_X8_isLetter ml_RX8_49 st_X8_isLetter rfl (Nat.le_of_ble_eq_true rfl) (mx_da t_X8_step 52 rfl) rfl (Nat.le_of_ble_eq_true rfl) rfl ?_
        refine mx_mono h ?_
        intro o M2 ho
        obtain ⟨e1, e2, ho⟩ := ho
        obtain ⟨x3, rfl, h⟩ := ho
        refine ⟨e1, ?_⟩
        have T := tp_of e1 e2 T
        clear e1 e2
        show mx_W m_X8_step (d + 1) 109 [.ref 3, .int (-1)] [.int (mx_b x3)] M2 Q
        refine mx_if_eq 119 (mx_da t_X8_step 53 rfl) rfl rfl (fun g9 => ?_) (fun g9 => ?_)
        · have h := h.1 (mx_b0.mp g9)
          refine mx_iload_n 1 (mx_da t_X8_step 57 rfl) rfl rfl rfl ?_
          refine mx_callS yX8_isDigit m_X8_isDigit [.int (-1)] mm_X8_isDigit ml_RX8_55 st_X8_isDigit rfl (Nat.le_of_ble_eq_true rfl) (mx_da t_X8_step 58 rfl) rfl (Nat.le_of_ble_eq_true rfl) rfl ?_
          refine mx_mono h ?_
          intro o M4 ho
          obtain ⟨e1, e2, ho⟩ := ho
          obtain ⟨x5, rfl, h⟩ := ho
          refine ⟨e1, ?_⟩
          have T := tp_of e1 e2 T
          clear e1 e2
          show mx_W m_X8_step (d + 1) 123 [.ref 3, .int (-1)] [.int (mx_b x5)] M4 Q
          refine mx_if_eq 133 (mx_da t_X8_step 59 rfl) rfl rfl (fun g9 => ?_) (fun g9 => ?_)
          · have h := h.1 (mx_b0.mp g9)
            refine mx_aload_n 0 (mx_da t_X8_step 63 rfl) rfl rfl rfl rfl ?_
            refine mx_iload_n 1 (mx_da t_X8_step 64 rfl) rfl rfl rfl ?_
            refine mx_callS yX8_isMark m_X8_isMark [.int (-1)] mm_X8_isMark ml_RX8_61 st_X8_isMark rfl (Nat.le_of_ble_eq_true rfl) (mx_da t_X8_step 65 rfl) rfl (Nat.le_of_ble_eq_true rfl) rfl ?_
            refine mx_mono h ?_
            intro o M6 ho
            obtain ⟨e1, e2, ho⟩ := ho
            obtain ⟨x7, rfl, h⟩ := ho
            refine ⟨e1, ?_⟩
            have T := tp_of e1 e2 T
            clear e1 e2
            show mx_W m_X8_step (d + 1) 138 [.ref 3, .int (-1)] [.int (mx_b x7), .ref 3] M6 Q
            refine mx_if_eq 145 (mx_da t_X8_step 66 rfl) rfl rfl (fun g9 => ?_) (fun g9 => ?_)
            · have h := h.1 (mx_b0.mp g9)
              refine mx_iconst (v := 4) (mx_da t_X8_step 69 rfl) rfl rfl ?_
              refine mx_putI fs_RX8_28 rfl (tp_s T 3 rfl) rfl rfl rfl (mx_da t_X8_step 70 rfl) rfl ?_
              refine mx_gen (mx_setI M6 3 4 4) (fun M8 e9 => ?_)
              have h := h _ e9
              have T : mx_Tp M8 := tp_e e9 T
              refine mx_aload_n 0 (mx_da t_X8_step 71 rfl) rfl rfl rfl rfl ?_
              refine mx_iload_n 1 (mx_da t_X8_step 72 rfl) rfl rfl rfl ?_
              refine mx_putI fs_RX8_31 rfl (tp_s T 3 rfl) rfl rfl rfl (mx_da t_X8_step 73 rfl) rfl ?_
              refine mx_gen (mx_setI M8 3 5 (-1)) (fun M9 e9 => ?_)
              have h := h _ e9
              have T : mx_Tp M9 := tp_e e9 T
              refine mx_aload_n 0 (mx_da t_X8_step 74 rfl) rfl rfl rfl rfl ?_
              refine mx_iconst (v := 1) (mx_da t_X8_step 75 rfl) rfl rfl ?_
              refine mx_putI fs_RX8_25 rfl (tp_s T 3 rfl) rfl rfl rfl (mx_da t_X8_step 76 rfl) rfl ?_
              refine mx_gen (mx_setI M9 3 3 1) (fun M10 e9 => ?_)
              have h := h _ e9
              have T : mx_Tp M10 := tp_e e9 T
              exact mx_vret rfl (mx_da t_X8_step 77 rfl) h
            · have h := h.2 (mx_bn.mp g9)
              refine mx_iconst (v := 3) (mx_da t_X8_step 67 rfl) rfl rfl ?_
              refine mx_goto (n := 146) (mx_da t_X8_step 68 rfl) rfl ?_
              refine mx_putI fs_RX8_28 rfl (tp_s T 3 rfl) rfl rfl rfl (mx_da t_X8_step 70 rfl) rfl ?_
              refine mx_gen (mx_setI M6 3 4 3) (fun M11 e9 => ?_)
              have h := h _ e9
              have T : mx_Tp M11 := tp_e e9 T
              refine mx_aload_n 0 (mx_da t_X8_step 71 rfl) rfl rfl rfl rfl ?_
              refine mx_iload_n 1 (mx_da t_X8_step 72 rfl) rfl rfl rfl ?_
              refine mx_putI fs_RX8_31 rfl (tp_s T 3 rfl) rfl rfl rfl (mx_da t_X8_step 73 rfl) rfl ?_
              refine mx_gen (mx_setI M11 3 5 (-1)) (fun M12 e9 => ?_)
              have h := h _ e9
              have T : mx_Tp M12 := tp_e e9 T
              refine mx_aload_n 0 (mx_da t_X8_step 74 rfl) rfl rfl rfl rfl ?_
              refine mx_iconst (v := 1) (mx_da t_X8_step 75 rfl) rfl rfl ?_
              refine mx_putI fs_RX8_25 rfl (tp_s T 3 rfl) rfl rfl rfl (mx_da t_X8_step 76 rfl) rfl ?_
              refine mx_gen (mx_setI M12 3 3 1) (fun M13 e9 => ?_)
              have h := h _ e9
              have T : mx_Tp M13 := tp_e e9 T
              exact mx_vret rfl (mx_da t_X8_step 77 rfl) h
          · have h := h.2 (mx_bn.mp g9)
            refine mx_aload_n 0 (mx_da t_X8_step 60 rfl) rfl rfl rfl rfl ?_
            refine mx_callV yX8_scanNumber m_X8_scanNumber [] mm_X8_scanNumber ml_RX8_58 im_X8_scanNumber se_X8_scanNumber (tp_s T 3 rfl) rfl rfl (Nat.le_of_ble_eq_true rfl) (mx_da t_X8_step 61 rfl) rfl (Nat.le_of_ble_eq_true rfl) rfl ?_
            refine mx_mono h ?_
            intro o M14 ho
            obtain ⟨e1, e2, ho⟩ := ho
            obtain ⟨rfl, h⟩ := ho
            refine ⟨e1, ?_⟩
            have T := tp_of e1 e2 T
            clear e1 e2
            show mx_W m_X8_step (d + 1) 130 [.ref 3, .int (-1)] [] M14 Q
            refine mx_goto (n := 159) (mx_da t_X8_step 62 rfl) rfl ?_
            exact mx_vret rfl (mx_da t_X8_step 77 rfl) h
        · have h := h.2 (mx_bn.mp g9)
          refine mx_aload_n 0 (mx_da t_X8_step 54 rfl) rfl rfl rfl rfl ?_
          refine mx_callV yX8_scanWord m_X8_scanWord [] mm_X8_scanWord ml_RX8_52 im_X8_scanWord se_X8_scanWord (tp_s T 3 rfl) rfl rfl (Nat.le_of_ble_eq_true rfl) (mx_da t_X8_step 55 rfl) rfl (Nat.le_of_ble_eq_true rfl) rfl ?_
          refine mx_mono h ?_
          intro o M15 ho
          obtain ⟨e1, e2, ho⟩ := ho
          obtain ⟨rfl, h⟩ := ho
          refine ⟨e1, ?_⟩
          have T := tp_of e1 e2 T
          clear e1 e2
          show mx_W m_X8_step (d + 1) 116 [.ref 3, .int (-1)] [] M15 Q
          refine mx_goto (n := 159) (mx_da t_X8_step 56 rfl) rfl ?_
          exact mx_vret rfl (mx_da t_X8_step 77 rfl) h
      · have h := h.2 g9
        refine mx_aload_n 0 (mx_da t_X8_step 47 rfl) rfl rfl rfl rfl ?_
        refine mx_iconst (v := 0) (mx_da t_X8_step 48 rfl) rfl rfl ?_
        refine mx_putI fs_RX8_28 rfl (tp_s T 3 rfl) rfl rfl rfl (mx_da t_X8_step 49 rfl) rfl ?_
        refine mx_gen (mx_setI M1 3 4 0) (fun M16 e9 => ?_)
        have h := h _ e9
        have T : mx_Tp M16 := tp_e e9 T
        refine mx_goto (n := 159) (mx_da t_X8_step 50 rfl) rfl ?_
        exact mx_vret rfl (mx_da t_X8_step 77 rfl) h
    · have h := h.2 g9
      refine mx_aload_n 0 (mx_da t_X8_step 34 rfl) rfl rfl rfl rfl ?_
      refine mx_getR 4 fs_RX8_12 rfl (tp_s T 3 rfl) (tp_r T 1 rfl) (mx_da t_X8_step 35 rfl) rfl ?_
      refine mx_aload_n 0 (mx_da t_X8_step 36 rfl) rfl rfl rfl rfl ?_
      refine mx_getI fs_RX8_22 rfl (tp_s T 3 rfl) (mx_da t_X8_step 37 rfl) rfl ?_
      refine mx_callV yX6_signAt m_X6_signAt [.int (mx_I M1 3 2)] mm_X6_signAt ml_RX8_41 im_X6_signAt se_X6_signAt (tp_s T 4 rfl) rfl rfl (Nat.le_of_ble_eq_true rfl) (mx_da t_X8_step 38 rfl) rfl (Nat.le_of_ble_eq_true rfl) rfl ?_
      refine mx_mono h ?_
      intro o M17 ho
      obtain ⟨e1, e2, ho⟩ := ho
      obtain ⟨x18, rfl, h⟩ := ho
      refine ⟨e1, ?_⟩
      have T := tp_of e1 e2 T
      clear e1 e2
      show mx_W m_X8_step (d + 1) 81 [.ref 3, .retAddr 0] [.int x18] M17 Q
      refine mx_goto (n := 85) (mx_da t_X8_step 39 rfl) rfl ?_
      refine mx_istore_n 1 [.ref 3, .int x18] (mx_da t_X8_step 41 rfl) rfl rfl (by decide) rfl ?_
      refine mx_aload_n 0 (mx_da t_X8_step 42 rfl) rfl rfl rfl rfl ?_
      refine mx_getI fs_RX8_22 rfl (tp_s T 3 rfl) (mx_da t_X8_step 43 rfl) rfl ?_
      refine mx_aload_n 0 (mx_da t_X8_step 44 rfl) rfl rfl rfl rfl ?_
      refine mx_getI fs_RX8_18 rfl (tp_s T 3 rfl) (mx_da t_X8_step 45 rfl) rfl ?_
      refine mx_icmp_lt 105 (mx_da t_X8_step 46 rfl) rfl rfl (fun g9 => ?_) (fun g9 => ?_)
      · have h := h.1 g9
        refine mx_iload_n 1 (mx_da t_X8_step 51 rfl) rfl rfl rfl ?_
        refine mx_callS yX8_isLetter m_X8_isLetter [.int x18] mm_X8_isLetter ml_RX8_49 st_X8_isLetter rfl (Nat.le_of_ble_eq_true rfl) (mx_da t_X8_step 52 rfl) rfl (Nat.le_of_ble_eq_true rfl) rfl ?_
        refine mx_mono h ?_
        intro o M19 ho
        obtain ⟨e1, e2, ho⟩ := ho
        obtain ⟨x20, rfl, h⟩ := ho
        refine ⟨e1, ?_⟩
        have T := tp_of e1 e2 T
        clear e1 e2
        show mx_W m_X8_step (d + 1) 109 [.ref 3, .int x18] [.int (mx_b x20)] M19 Q
        refine mx_if_eq 119 (mx_da t_X8_step 53 rfl) rfl rfl (fun g9 => ?_) (fun g9 => ?_)
        · have h := h.1 (mx_b0.mp g9)
          refine mx_iload_n 1 (mx_da t_X8_step 57 rfl) rfl rfl rfl ?_
          refine mx_callS yX8_isDigit m_X8_isDigit [.int x18] mm_X8_isDigit ml_RX8_55 st_X8_isDigit rfl (Nat.le_of_ble_eq_true rfl) (mx_da t_X8_step 58 rfl) rfl (Nat.le_of_ble_eq_true rfl) rfl ?_
          refine mx_mono h ?_
          intro o M21 ho
          obtain ⟨e1, e2, ho⟩ := ho
          obtain ⟨x22, rfl, h⟩ := ho
          refine ⟨e1, ?_⟩
          have T := tp_of e1 e2 T
          clear e1 e2
          show mx_W m_X8_step (d + 1) 123 [.ref 3, .int x18] [.int (mx_b x22)] M21 Q
          refine mx_if_eq 133 (mx_da t_X8_step 59 rfl) rfl rfl (fun g9 => ?_) (fun g9 => ?_)
          · have h := h.1 (mx_b0.mp g9)
            refine mx_aload_n 0 (mx_da t_X8_step 63 rfl) rfl rfl rfl rfl ?_
            refine mx_iload_n 1 (mx_da t_X8_step 64 rfl) rfl rfl rfl ?_
            refine mx_callS yX8_isMark m_X8_isMark [.int x18] mm_X8_isMark ml_RX8_61 st_X8_isMark rfl (Nat.le_of_ble_eq_true rfl) (mx_da t_X8_step 65 rfl) rfl (Nat.le_of_ble_eq_true rfl) rfl ?_
            refine mx_mono h ?_
            intro o M23 ho
            obtain ⟨e1, e2, ho⟩ := ho
            obtain ⟨x24, rfl, h⟩ := ho
            refine ⟨e1, ?_⟩
            have T := tp_of e1 e2 T
            clear e1 e2
            show mx_W m_X8_step (d + 1) 138 [.ref 3, .int x18] [.int (mx_b x24), .ref 3] M23 Q
            refine mx_if_eq 145 (mx_da t_X8_step 66 rfl) rfl rfl (fun g9 => ?_) (fun g9 => ?_)
            · have h := h.1 (mx_b0.mp g9)
              refine mx_iconst (v := 4) (mx_da t_X8_step 69 rfl) rfl rfl ?_
              refine mx_putI fs_RX8_28 rfl (tp_s T 3 rfl) rfl rfl rfl (mx_da t_X8_step 70 rfl) rfl ?_
              refine mx_gen (mx_setI M23 3 4 4) (fun M25 e9 => ?_)
              have h := h _ e9
              have T : mx_Tp M25 := tp_e e9 T
              refine mx_aload_n 0 (mx_da t_X8_step 71 rfl) rfl rfl rfl rfl ?_
              refine mx_iload_n 1 (mx_da t_X8_step 72 rfl) rfl rfl rfl ?_
              refine mx_putI fs_RX8_31 rfl (tp_s T 3 rfl) rfl rfl rfl (mx_da t_X8_step 73 rfl) rfl ?_
              refine mx_gen (mx_setI M25 3 5 x18) (fun M26 e9 => ?_)
              have h := h _ e9
              have T : mx_Tp M26 := tp_e e9 T
              refine mx_aload_n 0 (mx_da t_X8_step 74 rfl) rfl rfl rfl rfl ?_
              refine mx_iconst (v := 1) (mx_da t_X8_step 75 rfl) rfl rfl ?_
              refine mx_putI fs_RX8_25 rfl (tp_s T 3 rfl) rfl rfl rfl (mx_da t_X8_step 76 rfl) rfl ?_
              refine mx_gen (mx_setI M26 3 3 1) (fun M27 e9 => ?_)
              have h := h _ e9
              have T : mx_Tp M27 := tp_e e9 T
              exact mx_vret rfl (mx_da t_X8_step 77 rfl) h
            · have h := h.2 (mx_bn.mp g9)
              refine mx_iconst (v := 3) (mx_da t_X8_step 67 rfl) rfl rfl ?_
              refine mx_goto (n := 146) (mx_da t_X8_step 68 rfl) rfl ?_
              refine mx_putI fs_RX8_28 rfl (tp_s T 3 rfl) rfl rfl rfl (mx_da t_X8_step 70 rfl) rfl ?_
              refine mx_gen (mx_setI M23 3 4 3) (fun M28 e9 => ?_)
              have h := h _ e9
              have T : mx_Tp M28 := tp_e e9 T
              refine mx_aload_n 0 (mx_da t_X8_step 71 rfl) rfl rfl rfl rfl ?_
              refine mx_iload_n 1 (mx_da t_X8_step 72 rfl) rfl rfl rfl ?_
              refine mx_putI fs_RX8_31 rfl (tp_s T 3 rfl) rfl rfl rfl (mx_da t_X8_step 73 rfl) rfl ?_
              refine mx_gen (mx_setI M28 3 5 x18) (fun M29 e9 => ?_)
              have h := h _ e9
              have T : mx_Tp M29 := tp_e e9 T
              refine mx_aload_n 0 (mx_da t_X8_step 74 rfl) rfl rfl rfl rfl ?_
              refine mx_iconst (v := 1) (mx_da t_X8_step 75 rfl) rfl rfl ?_
              refine mx_putI fs_RX8_25 rfl (tp_s T 3 rfl) rfl rfl rfl (mx_da t_X8_step 76 rfl) rfl ?_
              refine mx_gen (mx_setI M29 3 3 1) (fun M30 e9 => ?_)
              have h := h _ e9
              have T : mx_Tp M30 := tp_e e9 T
              exact mx_vret rfl (mx_da t_X8_step 77 rfl) h
          · have h := h.2 (mx_bn.mp g9)
            refine mx_aload_n 0 (mx_da t_X8_step 60 rfl) rfl rfl rfl rfl ?_
            refine mx_callV yX8_scanNumber m_X8_scanNumber [] mm_X8_scanNumber ml_RX8_58 im_X8_scanNumber se_X8_scanNumber (tp_s T 3 rfl) rfl rfl (Nat.le_of_ble_eq_true rfl) (mx_da t_X8_step 61 rfl) rfl (Nat.le_of_ble_eq_true rfl) rfl ?_
            refine mx_mono h ?_
            intro o M31 ho
            obtain ⟨e1, e2, ho⟩ := ho
            obtain ⟨rfl, h⟩ := ho
            refine ⟨e1, ?_⟩
            have T := tp_of e1 e2 T
            clear e1 e2
            show mx_W m_X8_step (d + 1) 130 [.ref 3, .int x18] [] M31 Q
            refine mx_goto (n := 159) (mx_da t_X8_step 62 rfl) rfl ?_
            exact mx_vret rfl (mx_da t_X8_step 77 rfl) h
        · have h := h.2 (mx_bn.mp g9)
          refine mx_aload_n 0 (mx_da t_X8_step 54 rfl) rfl rfl rfl rfl ?_
          refine mx_callV yX8_scanWord m_X8_scanWord [] mm_X8_scanWord ml_RX8_52 im_X8_scanWord se_X8_scanWord (tp_s T 3 rfl) rfl rfl (Nat.le_of_ble_eq_true rfl) (mx_da t_X8_step 55 rfl) rfl (Nat.le_of_ble_eq_true rfl) rfl ?_
          refine mx_mono h ?_
          intro o M32 ho
          obtain ⟨e1, e2, ho⟩ := ho
          obtain ⟨rfl, h⟩ := ho
          refine ⟨e1, ?_⟩
          have T := tp_of e1 e2 T
          clear e1 e2
          show mx_W m_X8_step (d + 1) 116 [.ref 3, .int x18] [] M32 Q
          refine mx_goto (n := 159) (mx_da t_X8_step 56 rfl) rfl ?_
          exact mx_vret rfl (mx_da t_X8_step 77 rfl) h
      · have h := h.2 g9
        refine mx_aload_n 0 (mx_da t_X8_step 47 rfl) rfl rfl rfl rfl ?_
        refine mx_iconst (v := 0) (mx_da t_X8_step 48 rfl) rfl rfl ?_
        refine mx_putI fs_RX8_28 rfl (tp_s T 3 rfl) rfl rfl rfl (mx_da t_X8_step 49 rfl) rfl ?_
        refine mx_gen (mx_setI M17 3 4 0) (fun M33 e9 => ?_)
        have h := h _ e9
        have T : mx_Tp M33 := tp_e e9 T
        refine mx_goto (n := 159) (mx_da t_X8_step 50 rfl) rfl ?_
        exact mx_vret rfl (mx_da t_X8_step 77 rfl) h
  · have h := h.2 g9
    refine mx_aload_n 0 (mx_da t_X8_step 12 rfl) rfl rfl rfl rfl ?_
    refine mx_getR 4 fs_RX8_12 rfl (tp_s T 3 rfl) (tp_r T 1 rfl) (mx_da t_X8_step 13 rfl) rfl ?_
    refine mx_aload_n 0 (mx_da t_X8_step 14 rfl) rfl rfl rfl rfl ?_
    refine mx_getI fs_RX8_22 rfl (tp_s T 3 rfl) (mx_da t_X8_step 15 rfl) rfl ?_
    refine mx_callV yX6_signAt m_X6_signAt [.int (mx_I M 3 2)] mm_X6_signAt ml_RX8_41 im_X6_signAt se_X6_signAt (tp_s T 4 rfl) rfl rfl (Nat.le_of_ble_eq_true rfl) (mx_da t_X8_step 16 rfl) rfl (Nat.le_of_ble_eq_true rfl) rfl ?_
    refine mx_mono h ?_
    intro o M34 ho
    obtain ⟨e1, e2, ho⟩ := ho
    obtain ⟨x35, rfl, h⟩ := ho
    refine ⟨e1, ?_⟩
    have T := tp_of e1 e2 T
    clear e1 e2
    show mx_W m_X8_step (d + 1) 35 [.ref 3, .retAddr 0] [.int x35] M34 Q
    refine mx_callS yX8_isBlank m_X8_isBlank [.int x35] mm_X8_isBlank ml_RX8_45 st_X8_isBlank rfl (Nat.le_of_ble_eq_true rfl) (mx_da t_X8_step 17 rfl) rfl (Nat.le_of_ble_eq_true rfl) rfl ?_
    refine mx_mono h ?_
    intro o M36 ho
    obtain ⟨e1, e2, ho⟩ := ho
    obtain ⟨x37, rfl, h⟩ := ho
    refine ⟨e1, ?_⟩
    have T := tp_of e1 e2 T
    clear e1 e2
    show mx_W m_X8_step (d + 1) 38 [.ref 3, .retAddr 0] [.int (mx_b x37)] M36 Q
    refine mx_if_eq 54 (mx_da t_X8_step 18 rfl) rfl rfl (fun g9 => ?_) (fun g9 => ?_)
    · have h := h.1 (mx_b0.mp g9)
      refine mx_aload_n 0 (mx_da t_X8_step 26 rfl) rfl rfl rfl rfl ?_
      refine mx_iconst (v := 0) (mx_da t_X8_step 27 rfl) rfl rfl ?_
      refine mx_putI fs_RX8_25 rfl (tp_s T 3 rfl) rfl rfl rfl (mx_da t_X8_step 28 rfl) rfl ?_
      refine mx_gen (mx_setI M36 3 3 0) (fun M38 e9 => ?_)
      have h := h _ e9
      have T : mx_Tp M38 := tp_e e9 T
      refine mx_aload_n 0 (mx_da t_X8_step 29 rfl) rfl rfl rfl rfl ?_
      refine mx_getI fs_RX8_22 rfl (tp_s T 3 rfl) (mx_da t_X8_step 30 rfl) rfl ?_
      refine mx_aload_n 0 (mx_da t_X8_step 31 rfl) rfl rfl rfl rfl ?_
      refine mx_getI fs_RX8_18 rfl (tp_s T 3 rfl) (mx_da t_X8_step 32 rfl) rfl ?_
      refine mx_icmp_ge 84 (mx_da t_X8_step 33 rfl) rfl rfl (fun g9 => ?_) (fun g9 => ?_)
      · have h := h.1 g9
        refine mx_iconst (v := (-1)) (mx_da t_X8_step 40 rfl) rfl rfl ?_
        refine mx_istore_n 1 [.ref 3, .int (-1)] (mx_da t_X8_step 41 rfl) rfl rfl (by decide) rfl ?_
        refine mx_aload_n 0 (mx_da t_X8_step 42 rfl) rfl rfl rfl rfl ?_
        refine mx_getI fs_RX8_22 rfl (tp_s T 3 rfl) (mx_da t_X8_step 43 rfl) rfl ?_
        refine mx_aload_n 0 (mx_da t_X8_step 44 rfl) rfl rfl rfl rfl ?_
        refine mx_getI fs_RX8_18 rfl (tp_s T 3 rfl) (mx_da t_X8_step 45 rfl) rfl ?_
        refine mx_icmp_lt 105 (mx_da t_X8_step 46 rfl) rfl rfl (fun g9 => ?_) (fun g9 => ?_)
        · have h := h.1 g9
          refine mx_iload_n 1 (mx_da t_X8_step 51 rfl) rfl rfl rfl ?_
          refine mx_callS yX8_isLetter m_X8_isLetter [.int (-1)] mm_X8_isLetter ml_RX8_49 st_X8_isLetter rfl (Nat.le_of_ble_eq_true rfl) (mx_da t_X8_step 52 rfl) rfl (Nat.le_of_ble_eq_true rfl) rfl ?_
          refine mx_mono h ?_
          intro o M39 ho
          obtain ⟨e1, e2, ho⟩ := ho
          obtain ⟨x40, rfl, h⟩ := ho
          refine ⟨e1, ?_⟩
          have T := tp_of e1 e2 T
          clear e1 e2
          show mx_W m_X8_step (d + 1) 109 [.ref 3, .int (-1)] [.int (mx_b x40)] M39 Q
          refine mx_if_eq 119 (mx_da t_X8_step 53 rfl) rfl rfl (fun g9 => ?_) (fun g9 => ?_)
          · have h := h.1 (mx_b0.mp g9)
            refine mx_iload_n 1 (mx_da t_X8_step 57 rfl) rfl rfl rfl ?_
            refine mx_callS yX8_isDigit m_X8_isDigit [.int (-1)] mm_X8_isDigit ml_RX8_55 st_X8_isDigit rfl (Nat.le_of_ble_eq_true rfl) (mx_da t_X8_step 58 rfl) rfl (Nat.le_of_ble_eq_true rfl) rfl ?_
            refine mx_mono h ?_
            intro o M41 ho
            obtain ⟨e1, e2, ho⟩ := ho
            obtain ⟨x42, rfl, h⟩ := ho
            refine ⟨e1, ?_⟩
            have T := tp_of e1 e2 T
            clear e1 e2
            show mx_W m_X8_step (d + 1) 123 [.ref 3, .int (-1)] [.int (mx_b x42)] M41 Q
            refine mx_if_eq 133 (mx_da t_X8_step 59 rfl) rfl rfl (fun g9 => ?_) (fun g9 => ?_)
            · have h := h.1 (mx_b0.mp g9)
              refine mx_aload_n 0 (mx_da t_X8_step 63 rfl) rfl rfl rfl rfl ?_
              refine mx_iload_n 1 (mx_da t_X8_step 64 rfl) rfl rfl rfl ?_
              refine mx_callS yX8_isMark m_X8_isMark [.int (-1)] mm_X8_isMark ml_RX8_61 st_X8_isMark rfl (Nat.le_of_ble_eq_true rfl) (mx_da t_X8_step 65 rfl) rfl (Nat.le_of_ble_eq_true rfl) rfl ?_
              refine mx_mono h ?_
              intro o M43 ho
              obtain ⟨e1, e2, ho⟩ := ho
              obtain ⟨x44, rfl, h⟩ := ho
              refine ⟨e1, ?_⟩
              have T := tp_of e1 e2 T
              clear e1 e2
              show mx_W m_X8_step (d + 1) 138 [.ref 3, .int (-1)] [.int (mx_b x44), .ref 3] M43 Q
              refine mx_if_eq 145 (mx_da t_X8_step 66 rfl) rfl rfl (fun g9 => ?_) (fun g9 => ?_)
              · have h := h.1 (mx_b0.mp g9)
                refine mx_iconst (v := 4) (mx_da t_X8_step 69 rfl) rfl rfl ?_
                refine mx_putI fs_RX8_28 rfl (tp_s T 3 rfl) rfl rfl rfl (mx_da t_X8_step 70 rfl) rfl ?_
                refine mx_gen (mx_setI M43 3 4 4) (fun M45 e9 => ?_)
                have h := h _ e9
                have T : mx_Tp M45 := tp_e e9 T
                refine mx_aload_n 0 (mx_da t_X8_step 71 rfl) rfl rfl rfl rfl ?_
                refine mx_iload_n 1 (mx_da t_X8_step 72 rfl) rfl rfl rfl ?_
                refine mx_putI fs_RX8_31 rfl (tp_s T 3 rfl) rfl rfl rfl (mx_da t_X8_step 73 rfl) rfl ?_
                refine mx_gen (mx_setI M45 3 5 (-1)) (fun M46 e9 => ?_)
                have h := h _ e9
                have T : mx_Tp M46 := tp_e e9 T
                refine mx_aload_n 0 (mx_da t_X8_step 74 rfl) rfl rfl rfl rfl ?_
                refine mx_iconst (v := 1) (mx_da t_X8_step 75 rfl) rfl rfl ?_
                refine mx_putI fs_RX8_25 rfl (tp_s T 3 rfl) rfl rfl rfl (mx_da t_X8_step 76 rfl) rfl ?_
                refine mx_gen (mx_setI M46 3 3 1) (fun M47 e9 => ?_)
                have h := h _ e9
                have T : mx_Tp M47 := tp_e e9 T
                exact mx_vret rfl (mx_da t_X8_step 77 rfl) h
              · have h := h.2 (mx_bn.mp g9)
                refine mx_iconst (v := 3) (mx_da t_X8_step 67 rfl) rfl rfl ?_
                refine mx_goto (n := 146) (mx_da t_X8_step 68 rfl) rfl ?_
                refine mx_putI fs_RX8_28 rfl (tp_s T 3 rfl) rfl rfl rfl (mx_da t_X8_step 70 rfl) rfl ?_
                refine mx_gen (mx_setI M43 3 4 3) (fun M48 e9 => ?_)
                have h := h _ e9
                have T : mx_Tp M48 := tp_e e9 T
                refine mx_aload_n 0 (mx_da t_X8_step 71 rfl) rfl rfl rfl rfl ?_
                refine mx_iload_n 1 (mx_da t_X8_step 72 rfl) rfl rfl rfl ?_
                refine mx_putI fs_RX8_31 rfl (tp_s T 3 rfl) rfl rfl rfl (mx_da t_X8_step 73 rfl) rfl ?_
                refine mx_gen (mx_setI M48 3 5 (-1)) (fun M49 e9 => ?_)
                have h := h _ e9
                have T : mx_Tp M49 := tp_e e9 T
                refine mx_aload_n 0 (mx_da t_X8_step 74 rfl) rfl rfl rfl rfl ?_
                refine mx_iconst (v := 1) (mx_da t_X8_step 75 rfl) rfl rfl ?_
                refine mx_putI fs_RX8_25 rfl (tp_s T 3 rfl) rfl rfl rfl (mx_da t_X8_step 76 rfl) rfl ?_
                refine mx_gen (mx_setI M49 3 3 1) (fun M50 e9 => ?_)
                have h := h _ e9
                have T : mx_Tp M50 := tp_e e9 T
                exact mx_vret rfl (mx_da t_X8_step 77 rfl) h
            · have h := h.2 (mx_bn.mp g9)
              refine mx_aload_n 0 (mx_da t_X8_step 60 rfl) rfl rfl rfl rfl ?_
              refine mx_callV yX8_scanNumber m_X8_scanNumber [] mm_X8_scanNumber ml_RX8_58 im_X8_scanNumber se_X8_scanNumber (tp_s T 3 rfl) rfl rfl (Nat.le_of_ble_eq_true rfl) (mx_da t_X8_step 61 rfl) rfl (Nat.le_of_ble_eq_true rfl) rfl ?_
              refine mx_mono h ?_
              intro o M51 ho
              obtain ⟨e1, e2, ho⟩ := ho
              obtain ⟨rfl, h⟩ := ho
              refine ⟨e1, ?_⟩
              have T := tp_of e1 e2 T
              clear e1 e2
              show mx_W m_X8_step (d + 1) 130 [.ref 3, .int (-1)] [] M51 Q
              refine mx_goto (n := 159) (mx_da t_X8_step 62 rfl) rfl ?_
              exact mx_vret rfl (mx_da t_X8_step 77 rfl) h
          · have h := h.2 (mx_bn.mp g9)
            refine mx_aload_n 0 (mx_da t_X8_step 54 rfl) rfl rfl rfl rfl ?_
            refine mx_callV yX8_scanWord m_X8_scanWord [] mm_X8_scanWord ml_RX8_52 im_X8_scanWord se_X8_scanWord (tp_s T 3 rfl) rfl rfl (Nat.le_of_ble_eq_true rfl) (mx_da t_X8_step 55 rfl) rfl (Nat.le_of_ble_eq_true rfl) rfl ?_
            refine mx_mono h ?_
            intro o M52 ho
            obtain ⟨e1, e2, ho⟩ := ho
            obtain ⟨rfl, h⟩ := ho
            refine ⟨e1, ?_⟩
            have T := tp_of e1 e2 T
            clear e1 e2
            show mx_W m_X8_step (d + 1) 116 [.ref 3, .int (-1)] [] M52 Q
            refine mx_goto (n := 159) (mx_da t_X8_step 56 rfl) rfl ?_
            exact mx_vret rfl (mx_da t_X8_step 77 rfl) h
        · have h := h.2 g9
          refine mx_aload_n 0 (mx_da t_X8_step 47 rfl) rfl rfl rfl rfl ?_
          refine mx_iconst (v := 0) (mx_da t_X8_step 48 rfl) rfl rfl ?_
          refine mx_putI fs_RX8_28 rfl (tp_s T 3 rfl) rfl rfl rfl (mx_da t_X8_step 49 rfl) rfl ?_
          refine mx_gen (mx_setI M38 3 4 0) (fun M53 e9 => ?_)
          have h := h _ e9
          have T : mx_Tp M53 := tp_e e9 T
          refine mx_goto (n := 159) (mx_da t_X8_step 50 rfl) rfl ?_
          exact mx_vret rfl (mx_da t_X8_step 77 rfl) h
      · have h := h.2 g9
        refine mx_aload_n 0 (mx_da t_X8_step 34 rfl) rfl rfl rfl rfl ?_
        refine mx_getR 4 fs_RX8_12 rfl (tp_s T 3 rfl) (tp_r T 1 rfl) (mx_da t_X8_step 35 rfl) rfl ?_
        refine mx_aload_n 0 (mx_da t_X8_step 36 rfl) rfl rfl rfl rfl ?_
        refine mx_getI fs_RX8_22 rfl (tp_s T 3 rfl) (mx_da t_X8_step 37 rfl) rfl ?_
        refine mx_callV yX6_signAt m_X6_signAt [.int (mx_I M38 3 2)] mm_X6_signAt ml_RX8_41 im_X6_signAt se_X6_signAt (tp_s T 4 rfl) rfl rfl (Nat.le_of_ble_eq_true rfl) (mx_da t_X8_step 38 rfl) rfl (Nat.le_of_ble_eq_true rfl) rfl ?_
        refine mx_mono h ?_
        intro o M54 ho
        obtain ⟨e1, e2, ho⟩ := ho
        obtain ⟨x55, rfl, h⟩ := ho
        refine ⟨e1, ?_⟩
        have T := tp_of e1 e2 T
        clear e1 e2
        show mx_W m_X8_step (d + 1) 81 [.ref 3, .retAddr 0] [.int x55] M54 Q
        refine mx_goto (n := 85) (mx_da t_X8_step 39 rfl) rfl ?_
        refine mx_istore_n 1 [.ref 3, .int x55] (mx_da t_X8_step 41 rfl) rfl rfl (by decide) rfl ?_
        refine mx_aload_n 0 (mx_da t_X8_step 42 rfl) rfl rfl rfl rfl ?_
        refine mx_getI fs_RX8_22 rfl (tp_s T 3 rfl) (mx_da t_X8_step 43 rfl) rfl ?_
        refine mx_aload_n 0 (mx_da t_X8_step 44 rfl) rfl rfl rfl rfl ?_
        refine mx_getI fs_RX8_18 rfl (tp_s T 3 rfl) (mx_da t_X8_step 45 rfl) rfl ?_
        refine mx_icmp_lt 105 (mx_da t_X8_step 46 rfl) rfl rfl (fun g9 => ?_) (fun g9 => ?_)
        · have h := h.1 g9
          refine mx_iload_n 1 (mx_da t_X8_step 51 rfl) rfl rfl rfl ?_
          refine mx_callS yX8_isLetter m_X8_isLetter [.int x55] mm_X8_isLetter ml_RX8_49 st_X8_isLetter rfl (Nat.le_of_ble_eq_true rfl) (mx_da t_X8_step 52 rfl) rfl (Nat.le_of_ble_eq_true rfl) rfl ?_
          refine mx_mono h ?_
          intro o M56 ho
          obtain ⟨e1, e2, ho⟩ := ho
          obtain ⟨x57, rfl, h⟩ := ho
          refine ⟨e1, ?_⟩
          have T := tp_of e1 e2 T
          clear e1 e2
          show mx_W m_X8_step (d + 1) 109 [.ref 3, .int x55] [.int (mx_b x57)] M56 Q
          refine mx_if_eq 119 (mx_da t_X8_step 53 rfl) rfl rfl (fun g9 => ?_) (fun g9 => ?_)
          · have h := h.1 (mx_b0.mp g9)
            refine mx_iload_n 1 (mx_da t_X8_step 57 rfl) rfl rfl rfl ?_
            refine mx_callS yX8_isDigit m_X8_isDigit [.int x55] mm_X8_isDigit ml_RX8_55 st_X8_isDigit rfl (Nat.le_of_ble_eq_true rfl) (mx_da t_X8_step 58 rfl) rfl (Nat.le_of_ble_eq_true rfl) rfl ?_
            refine mx_mono h ?_
            intro o M58 ho
            obtain ⟨e1, e2, ho⟩ := ho
            obtain ⟨x59, rfl, h⟩ := ho
            refine ⟨e1, ?_⟩
            have T := tp_of e1 e2 T
            clear e1 e2
            show mx_W m_X8_step (d + 1) 123 [.ref 3, .int x55] [.int (mx_b x59)] M58 Q
            refine mx_if_eq 133 (mx_da t_X8_step 59 rfl) rfl rfl (fun g9 => ?_) (fun g9 => ?_)
            · have h := h.1 (mx_b0.mp g9)
              refine mx_aload_n 0 (mx_da t_X8_step 63 rfl) rfl rfl rfl rfl ?_
              refine mx_iload_n 1 (mx_da t_X8_step 64 rfl) rfl rfl rfl ?_
              refine mx_callS yX8_isMark m_X8_isMark [.int x55] mm_X8_isMark ml_RX8_61 st_X8_isMark rfl (Nat.le_of_ble_eq_true rfl) (mx_da t_X8_step 65 rfl) rfl (Nat.le_of_ble_eq_true rfl) rfl ?_
              refine mx_mono h ?_
              intro o M60 ho
              obtain ⟨e1, e2, ho⟩ := ho
              obtain ⟨x61, rfl, h⟩ := ho
              refine ⟨e1, ?_⟩
              have T := tp_of e1 e2 T
              clear e1 e2
              show mx_W m_X8_step (d + 1) 138 [.ref 3, .int x55] [.int (mx_b x61), .ref 3] M60 Q
              refine mx_if_eq 145 (mx_da t_X8_step 66 rfl) rfl rfl (fun g9 => ?_) (fun g9 => ?_)
              · have h := h.1 (mx_b0.mp g9)
                refine mx_iconst (v := 4) (mx_da t_X8_step 69 rfl) rfl rfl ?_
                refine mx_putI fs_RX8_28 rfl (tp_s T 3 rfl) rfl rfl rfl (mx_da t_X8_step 70 rfl) rfl ?_
                refine mx_gen (mx_setI M60 3 4 4) (fun M62 e9 => ?_)
                have h := h _ e9
                have T : mx_Tp M62 := tp_e e9 T
                refine mx_aload_n 0 (mx_da t_X8_step 71 rfl) rfl rfl rfl rfl ?_
                refine mx_iload_n 1 (mx_da t_X8_step 72 rfl) rfl rfl rfl ?_
                refine mx_putI fs_RX8_31 rfl (tp_s T 3 rfl) rfl rfl rfl (mx_da t_X8_step 73 rfl) rfl ?_
                refine mx_gen (mx_setI M62 3 5 x55) (fun M63 e9 => ?_)
                have h := h _ e9
                have T : mx_Tp M63 := tp_e e9 T
                refine mx_aload_n 0 (mx_da t_X8_step 74 rfl) rfl rfl rfl rfl ?_
                refine mx_iconst (v := 1) (mx_da t_X8_step 75 rfl) rfl rfl ?_
                refine mx_putI fs_RX8_25 rfl (tp_s T 3 rfl) rfl rfl rfl (mx_da t_X8_step 76 rfl) rfl ?_
                refine mx_gen (mx_setI M63 3 3 1) (fun M64 e9 => ?_)
                have h := h _ e9
                have T : mx_Tp M64 := tp_e e9 T
                exact mx_vret rfl (mx_da t_X8_step 77 rfl) h
              · have h := h.2 (mx_bn.mp g9)
                refine mx_iconst (v := 3) (mx_da t_X8_step 67 rfl) rfl rfl ?_
                refine mx_goto (n := 146) (mx_da t_X8_step 68 rfl) rfl ?_
                refine mx_putI fs_RX8_28 rfl (tp_s T 3 rfl) rfl rfl rfl (mx_da t_X8_step 70 rfl) rfl ?_
                refine mx_gen (mx_setI M60 3 4 3) (fun M65 e9 => ?_)
                have h := h _ e9
                have T : mx_Tp M65 := tp_e e9 T
                refine mx_aload_n 0 (mx_da t_X8_step 71 rfl) rfl rfl rfl rfl ?_
                refine mx_iload_n 1 (mx_da t_X8_step 72 rfl) rfl rfl rfl ?_
                refine mx_putI fs_RX8_31 rfl (tp_s T 3 rfl) rfl rfl rfl (mx_da t_X8_step 73 rfl) rfl ?_
                refine mx_gen (mx_setI M65 3 5 x55) (fun M66 e9 => ?_)
                have h := h _ e9
                have T : mx_Tp M66 := tp_e e9 T
                refine mx_aload_n 0 (mx_da t_X8_step 74 rfl) rfl rfl rfl rfl ?_
                refine mx_iconst (v := 1) (mx_da t_X8_step 75 rfl) rfl rfl ?_
                refine mx_putI fs_RX8_25 rfl (tp_s T 3 rfl) rfl rfl rfl (mx_da t_X8_step 76 rfl) rfl ?_
                refine mx_gen (mx_setI M66 3 3 1) (fun M67 e9 => ?_)
                have h := h _ e9
                have T : mx_Tp M67 := tp_e e9 T
                exact mx_vret rfl (mx_da t_X8_step 77 rfl) h
            · have h := h.2 (mx_bn.mp g9)
              refine mx_aload_n 0 (mx_da t_X8_step 60 rfl) rfl rfl rfl rfl ?_
              refine mx_callV yX8_scanNumber m_X8_scanNumber [] mm_X8_scanNumber ml_RX8_58 im_X8_scanNumber se_X8_scanNumber (tp_s T 3 rfl) rfl rfl (Nat.le_of_ble_eq_true rfl) (mx_da t_X8_step 61 rfl) rfl (Nat.le_of_ble_eq_true rfl) rfl ?_
              refine mx_mono h ?_
              intro o M68 ho
              obtain ⟨e1, e2, ho⟩ := ho
              obtain ⟨rfl, h⟩ := ho
              refine ⟨e1, ?_⟩
              have T := tp_of e1 e2 T
              clear e1 e2
              show mx_W m_X8_step (d + 1) 130 [.ref 3, .int x55] [] M68 Q
              refine mx_goto (n := 159) (mx_da t_X8_step 62 rfl) rfl ?_
              exact mx_vret rfl (mx_da t_X8_step 77 rfl) h
          · have h := h.2 (mx_bn.mp g9)
            refine mx_aload_n 0 (mx_da t_X8_step 54 rfl) rfl rfl rfl rfl ?_
            refine mx_callV yX8_scanWord m_X8_scanWord [] mm_X8_scanWord ml_RX8_52 im_X8_scanWord se_X8_scanWord (tp_s T 3 rfl) rfl rfl (Nat.le_of_ble_eq_true rfl) (mx_da t_X8_step 55 rfl) rfl (Nat.le_of_ble_eq_true rfl) rfl ?_
            refine mx_mono h ?_
            intro o M69 ho
            obtain ⟨e1, e2, ho⟩ := ho
            obtain ⟨rfl, h⟩ := ho
            refine ⟨e1, ?_⟩
            have T := tp_of e1 e2 T
            clear e1 e2
            show mx_W m_X8_step (d + 1) 116 [.ref 3, .int x55] [] M69 Q
            refine mx_goto (n := 159) (mx_da t_X8_step 56 rfl) rfl ?_
            exact mx_vret rfl (mx_da t_X8_step 77 rfl) h
        · have h := h.2 g9
          refine mx_aload_n 0 (mx_da t_X8_step 47 rfl) rfl rfl rfl rfl ?_
          refine mx_iconst (v := 0) (mx_da t_X8_step 48 rfl) rfl rfl ?_
          refine mx_putI fs_RX8_28 rfl (tp_s T 3 rfl) rfl rfl rfl (mx_da t_X8_step 49 rfl) rfl ?_
          refine mx_gen (mx_setI M54 3 4 0) (fun M70 e9 => ?_)
          have h := h _ e9
          have T : mx_Tp M70 := tp_e e9 T
          refine mx_goto (n := 159) (mx_da t_X8_step 50 rfl) rfl ?_
          exact mx_vret rfl (mx_da t_X8_step 77 rfl) h
    · have h := h.2 (mx_bn.mp g9)
      refine mx_aload_n 0 (mx_da t_X8_step 19 rfl) rfl rfl rfl rfl ?_
      refine mx_dup (mx_da t_X8_step 20 rfl) rfl rfl ?_
      refine mx_getI fs_RX8_22 rfl (tp_s T 3 rfl) (mx_da t_X8_step 21 rfl) rfl ?_
      refine mx_iconst (v := 1) (mx_da t_X8_step 22 rfl) rfl rfl ?_
      refine mx_iadd (mx_da t_X8_step 23 rfl) rfl ?_
      refine mx_putI fs_RX8_22 rfl (tp_s T 3 rfl) rfl rfl rfl (mx_da t_X8_step 24 rfl) rfl ?_
      refine mx_gen (mx_setI M36 3 2 ((mx_I M36 3 2) + 1)) (fun M71 e9 => ?_)
      have h := h _ e9
      have T : mx_Tp M71 := tp_e e9 T
      refine mx_goto (n := 13) (mx_da t_X8_step 25 rfl) rfl ?_
      exact h
set_option maxHeartbeats 1000000 in
theorem x_X8_scanWord_0 {d : Nat} {M : mx_M} {Q : mx_O → mx_M → Prop} (T : mx_Tp M) 
    (h : (∀ M1, M1 = mx_setI M 3 4 1 → (∀ M2, M2 = mx_setJ M1 3 6 0 → mx_W m_X8_scanWord (d + 1) 15 [.ref 3, .int (mx_I M2 3 2)] [] M2 Q))) :
    mx_W m_X8_scanWord (d + 1) 0 [.ref 3, .retAddr 0] [] M Q := by
  refine mx_aload_n 0 (mx_da t_X8_scanWord 0 rfl) rfl rfl rfl rfl ?_
  refine mx_iconst (v := 1) (mx_da t_X8_scanWord 1 rfl) rfl rfl ?_
  refine mx_putI fs_RX8_28 rfl (tp_s T 3 rfl) rfl rfl rfl (mx_da t_X8_scanWord 2 rfl) rfl ?_
  refine mx_gen (mx_setI M 3 4 1) (fun M1 e9 => ?_)
  have h := h _ e9
  have T : mx_Tp M1 := tp_e e9 T
  refine mx_aload_n 0 (mx_da t_X8_scanWord 3 rfl) rfl rfl rfl rfl ?_
  refine mx_lconst (v := 0) (mx_da t_X8_scanWord 4 rfl) rfl rfl ?_
  refine mx_putJ fs_RX8_34 rfl (tp_s T 3 rfl) rfl (mx_da t_X8_scanWord 5 rfl) rfl ?_
  refine mx_gen (mx_setJ M1 3 6 0) (fun M2 e9 => ?_)
  have h := h _ e9
  have T : mx_Tp M2 := tp_e e9 T
  refine mx_aload_n 0 (mx_da t_X8_scanWord 6 rfl) rfl rfl rfl rfl ?_
  refine mx_getI fs_RX8_22 rfl (tp_s T 3 rfl) (mx_da t_X8_scanWord 7 rfl) rfl ?_
  refine mx_istore_n 1 [.ref 3, .int (mx_I M2 3 2)] (mx_da t_X8_scanWord 8 rfl) rfl rfl (by decide) rfl ?_
  exact h
set_option maxHeartbeats 1000000 in
theorem x_X8_scanWord_15 {d : Nat} {M : mx_M} {Q : mx_O → mx_M → Prop} (T : mx_Tp M) (v1 : Int32)
    (h : (((mx_I M 3 1) ≤ v1 → Q (.inl none) M) ∧ (¬ (mx_I M 3 1) ≤ v1 → (mx_W m_X6_signAt d 0 [.ref 4, .int v1] [] M (fun o M1 => mx_sh M1 = mx_sh M ∧ mx_R M1 = mx_R M ∧ (∃ x2 : Int32, o = .inl (some (.int x2)) ∧ (mx_W m_X8_isLetter d 0 [.int x2] [] M1 (fun o M3 => mx_sh M3 = mx_sh M1 ∧ mx_R M3 = mx_R M1 ∧ (∃ x4 : Bool, o = .inl (some (.int (mx_b x4))) ∧ ((x4 = false → Q (.inl none) M3) ∧ (x4 = true → (((8 : Int32) ≤ (mx_I M3 3 3) → (∀ M5, M5 = mx_setI M3 3 3 ((mx_I M3 3 3) + 1) → mx_W m_X8_scanWord (d + 1) 15 [.ref 3, .int (v1 + 1)] [] M5 Q)) ∧ (¬ (8 : Int32) ≤ (mx_I M3 3 3) → (mx_W m_X6_signAt d 0 [.ref 4, .int v1] [] M3 (fun o M6 => mx_sh M6 = mx_sh M3 ∧ mx_R M6 = mx_R M3 ∧ (∃ x7 : Int32, o = .inl (some (.int x7)) ∧ (mx_W m_X9_withLetter d 0 [.long (mx_J M3 3 6), .retAddr 0, .int (mx_I M3 3 3), .int ((x7 - 97) + 1)] [] M6 (fun o M8 => mx_sh M8 = mx_sh M6 ∧ mx_R M8 = mx_R M6 ∧ (∃ x9 : Int64, o = .inl (some (.long x9)) ∧ (∀ M10, M10 = mx_setJ M8 3 6 x9 → (∀ M11, M11 = mx_setI M10 3 3 ((mx_I M10 3 3) + 1) → mx_W m_X8_scanWord (d + 1) 15 [.ref 3, .int (v1 + 1)] [] M11 Q))))))))))))))))))))) :
    mx_W m_X8_scanWord (d + 1) 15 [.ref 3, .int v1] [] M Q := by
  refine mx_iload_n 1 (mx_da t_X8_scanWord 9 rfl) rfl rfl rfl ?_
  refine mx_aload_n 0 (mx_da t_X8_scanWord 10 rfl) rfl rfl rfl rfl ?_
  refine mx_getI fs_RX8_18 rfl (tp_s T 3 rfl) (mx_da t_X8_scanWord 11 rfl) rfl ?_
  refine mx_icmp_ge 90 (mx_da t_X8_scanWord 12 rfl) rfl rfl (fun g9 => ?_) (fun g9 => ?_)
  · have h := h.1 g9
    exact mx_vret rfl (mx_da t_X8_scanWord 46 rfl) h
  · have h := h.2 g9
    refine mx_aload_n 0 (mx_da t_X8_scanWord 13 rfl) rfl rfl rfl rfl ?_
    refine mx_getR 4 fs_RX8_12 rfl (tp_s T 3 rfl) (tp_r T 1 rfl) (mx_da t_X8_scanWord 14 rfl) rfl ?_
    refine mx_iload_n 1 (mx_da t_X8_scanWord 15 rfl) rfl rfl rfl ?_
    refine mx_callV yX6_signAt m_X6_signAt [.int v1] mm_X6_signAt ml_RX8_41 im_X6_signAt se_X6_signAt (tp_s T 4 rfl) rfl rfl (Nat.le_of_ble_eq_true rfl) (mx_da t_X8_scanWord 16 rfl) rfl (Nat.le_of_ble_eq_true rfl) rfl ?_
    refine mx_mono h ?_
    intro o M1 ho
    obtain ⟨e1, e2, ho⟩ := ho
    obtain ⟨x2, rfl, h⟩ := ho
    refine ⟨e1, ?_⟩
    have T := tp_of e1 e2 T
    clear e1 e2
    show mx_W m_X8_scanWord (d + 1) 31 [.ref 3, .int v1] [.int x2] M1 Q
    refine mx_callS yX8_isLetter m_X8_isLetter [.int x2] mm_X8_isLetter ml_RX8_49 st_X8_isLetter rfl (Nat.le_of_ble_eq_true rfl) (mx_da t_X8_scanWord 17 rfl) rfl (Nat.le_of_ble_eq_true rfl) rfl ?_
    refine mx_mono h ?_
    intro o M3 ho
    obtain ⟨e1, e2, ho⟩ := ho
    obtain ⟨x4, rfl, h⟩ := ho
    refine ⟨e1, ?_⟩
    have T := tp_of e1 e2 T
    clear e1 e2
    show mx_W m_X8_scanWord (d + 1) 34 [.ref 3, .int v1] [.int (mx_b x4)] M3 Q
    refine mx_if_eq 90 (mx_da t_X8_scanWord 18 rfl) rfl rfl (fun g9 => ?_) (fun g9 => ?_)
    · have h := h.1 (mx_b0.mp g9)
      exact mx_vret rfl (mx_da t_X8_scanWord 46 rfl) h
    · have h := h.2 (mx_bn.mp g9)
      refine mx_aload_n 0 (mx_da t_X8_scanWord 19 rfl) rfl rfl rfl rfl ?_
      refine mx_getI fs_RX8_25 rfl (tp_s T 3 rfl) (mx_da t_X8_scanWord 20 rfl) rfl ?_
      refine mx_bipush (v := 8) (mx_da t_X8_scanWord 21 rfl) rfl rfl ?_
      refine mx_icmp_ge 74 (mx_da t_X8_scanWord 22 rfl) rfl rfl (fun g9 => ?_) (fun g9 => ?_)
      · have h := h.1 g9
        refine mx_aload_n 0 (mx_da t_X8_scanWord 38 rfl) rfl rfl rfl rfl ?_
        refine mx_dup (mx_da t_X8_scanWord 39 rfl) rfl rfl ?_
        refine mx_getI fs_RX8_25 rfl (tp_s T 3 rfl) (mx_da t_X8_scanWord 40 rfl) rfl ?_
        refine mx_iconst (v := 1) (mx_da t_X8_scanWord 41 rfl) rfl rfl ?_
        refine mx_iadd (mx_da t_X8_scanWord 42 rfl) rfl ?_
        refine mx_putI fs_RX8_25 rfl (tp_s T 3 rfl) rfl rfl rfl (mx_da t_X8_scanWord 43 rfl) rfl ?_
        refine mx_gen (mx_setI M3 3 3 ((mx_I M3 3 3) + 1)) (fun M5 e9 => ?_)
        have h := h _ e9
        have T : mx_Tp M5 := tp_e e9 T
        refine mx_iinc 1 (v := v1 + 1) [.ref 3, .int (v1 + 1)] (mx_da t_X8_scanWord 44 rfl) rfl (by decide) rfl rfl rfl ?_
        refine mx_goto (n := 15) (mx_da t_X8_scanWord 45 rfl) rfl ?_
        exact h
      · have h := h.2 g9
        refine mx_aload_n 0 (mx_da t_X8_scanWord 23 rfl) rfl rfl rfl rfl ?_
        refine mx_aload_n 0 (mx_da t_X8_scanWord 24 rfl) rfl rfl rfl rfl ?_
        refine mx_getJ fs_RX8_34 rfl (tp_s T 3 rfl) (mx_da t_X8_scanWord 25 rfl) rfl ?_
        refine mx_aload_n 0 (mx_da t_X8_scanWord 26 rfl) rfl rfl rfl rfl ?_
        refine mx_getI fs_RX8_25 rfl (tp_s T 3 rfl) (mx_da t_X8_scanWord 27 rfl) rfl ?_
        refine mx_aload_n 0 (mx_da t_X8_scanWord 28 rfl) rfl rfl rfl rfl ?_
        refine mx_getR 4 fs_RX8_12 rfl (tp_s T 3 rfl) (tp_r T 1 rfl) (mx_da t_X8_scanWord 29 rfl) rfl ?_
        refine mx_iload_n 1 (mx_da t_X8_scanWord 30 rfl) rfl rfl rfl ?_
        refine mx_callV yX6_signAt m_X6_signAt [.int v1] mm_X6_signAt ml_RX8_41 im_X6_signAt se_X6_signAt (tp_s T 4 rfl) rfl rfl (Nat.le_of_ble_eq_true rfl) (mx_da t_X8_scanWord 31 rfl) rfl (Nat.le_of_ble_eq_true rfl) rfl ?_
        refine mx_mono h ?_
        intro o M6 ho
        obtain ⟨e1, e2, ho⟩ := ho
        obtain ⟨x7, rfl, h⟩ := ho
        refine ⟨e1, ?_⟩
        have T := tp_of e1 e2 T
        clear e1 e2
        show mx_W m_X8_scanWord (d + 1) 63 [.ref 3, .int v1] [.int x7, .int (mx_I M3 3 3), .long (mx_J M3 3 6), .ref 3] M6 Q
        refine mx_bipush (v := 97) (mx_da t_X8_scanWord 32 rfl) rfl rfl ?_
        refine mx_isub (mx_da t_X8_scanWord 33 rfl) rfl ?_
        refine mx_iconst (v := 1) (mx_da t_X8_scanWord 34 rfl) rfl rfl ?_
        refine mx_iadd (mx_da t_X8_scanWord 35 rfl) rfl ?_
        refine mx_callS yX9_withLetter m_X9_withLetter [.long (mx_J M3 3 6), .int (mx_I M3 3 3), .int ((x7 - 97) + 1)] mm_X9_withLetter ml_RX8_64 st_X9_withLetter rfl (Nat.le_of_ble_eq_true rfl) (mx_da t_X8_scanWord 36 rfl) rfl (Nat.le_of_ble_eq_true rfl) rfl ?_
        refine mx_mono h ?_
        intro o M8 ho
        obtain ⟨e1, e2, ho⟩ := ho
        obtain ⟨x9, rfl, h⟩ := ho
        refine ⟨e1, ?_⟩
        have T := tp_of e1 e2 T
        clear e1 e2
        show mx_W m_X8_scanWord (d + 1) 71 [.ref 3, .int v1] [.long x9, .ref 3] M8 Q
        refine mx_putJ fs_RX8_34 rfl (tp_s T 3 rfl) rfl (mx_da t_X8_scanWord 37 rfl) rfl ?_
        refine mx_gen (mx_setJ M8 3 6 x9) (fun M10 e9 => ?_)
        have h := h _ e9
        have T : mx_Tp M10 := tp_e e9 T
        refine mx_aload_n 0 (mx_da t_X8_scanWord 38 rfl) rfl rfl rfl rfl ?_
        refine mx_dup (mx_da t_X8_scanWord 39 rfl) rfl rfl ?_
        refine mx_getI fs_RX8_25 rfl (tp_s T 3 rfl) (mx_da t_X8_scanWord 40 rfl) rfl ?_
        refine mx_iconst (v := 1) (mx_da t_X8_scanWord 41 rfl) rfl rfl ?_
        refine mx_iadd (mx_da t_X8_scanWord 42 rfl) rfl ?_
        refine mx_putI fs_RX8_25 rfl (tp_s T 3 rfl) rfl rfl rfl (mx_da t_X8_scanWord 43 rfl) rfl ?_
        refine mx_gen (mx_setI M10 3 3 ((mx_I M10 3 3) + 1)) (fun M11 e9 => ?_)
        have h := h _ e9
        have T : mx_Tp M11 := tp_e e9 T
        refine mx_iinc 1 (v := v1 + 1) [.ref 3, .int (v1 + 1)] (mx_da t_X8_scanWord 44 rfl) rfl (by decide) rfl rfl rfl ?_
        refine mx_goto (n := 15) (mx_da t_X8_scanWord 45 rfl) rfl ?_
        exact h
set_option maxHeartbeats 1000000 in
theorem x_X8_scanNumber_0 {d : Nat} {M : mx_M} {Q : mx_O → mx_M → Prop} (T : mx_Tp M) 
    (h : (∀ M1, M1 = mx_setI M 3 4 2 → (∀ M2, M2 = mx_setI M1 3 5 0 → mx_W m_X8_scanNumber (d + 1) 15 [.ref 3, .int (mx_I M2 3 2)] [] M2 Q))) :
    mx_W m_X8_scanNumber (d + 1) 0 [.ref 3, .retAddr 0] [] M Q := by
  refine mx_aload_n 0 (mx_da t_X8_scanNumber 0 rfl) rfl rfl rfl rfl ?_
  refine mx_iconst (v := 2) (mx_da t_X8_scanNumber 1 rfl) rfl rfl ?_
  refine mx_putI fs_RX8_28 rfl (tp_s T 3 rfl) rfl rfl rfl (mx_da t_X8_scanNumber 2 rfl) rfl ?_
  refine mx_gen (mx_setI M 3 4 2) (fun M1 e9 => ?_)
  have h := h _ e9
  have T : mx_Tp M1 := tp_e e9 T
  refine mx_aload_n 0 (mx_da t_X8_scanNumber 3 rfl) rfl rfl rfl rfl ?_
  refine mx_iconst (v := 0) (mx_da t_X8_scanNumber 4 rfl) rfl rfl ?_
  refine mx_putI fs_RX8_31 rfl (tp_s T 3 rfl) rfl rfl rfl (mx_da t_X8_scanNumber 5 rfl) rfl ?_
  refine mx_gen (mx_setI M1 3 5 0) (fun M2 e9 => ?_)
  have h := h _ e9
  have T : mx_Tp M2 := tp_e e9 T
  refine mx_aload_n 0 (mx_da t_X8_scanNumber 6 rfl) rfl rfl rfl rfl ?_
  refine mx_getI fs_RX8_22 rfl (tp_s T 3 rfl) (mx_da t_X8_scanNumber 7 rfl) rfl ?_
  refine mx_istore_n 1 [.ref 3, .int (mx_I M2 3 2)] (mx_da t_X8_scanNumber 8 rfl) rfl rfl (by decide) rfl ?_
  exact h
set_option maxHeartbeats 1000000 in
theorem x_X8_scanNumber_15 {d : Nat} {M : mx_M} {Q : mx_O → mx_M → Prop} (T : mx_Tp M) (v1 : Int32)
    (h : (((mx_I M 3 1) ≤ v1 → Q (.inl none) M) ∧ (¬ (mx_I M 3 1) ≤ v1 → (mx_W m_X6_signAt d 0 [.ref 4, .int v1] [] M (fun o M1 => mx_sh M1 = mx_sh M ∧ mx_R M1 = mx_R M ∧ (∃ x2 : Int32, o = .inl (some (.int x2)) ∧ (mx_W m_X8_isDigit d 0 [.int x2] [] M1 (fun o M3 => mx_sh M3 = mx_sh M1 ∧ mx_R M3 = mx_R M1 ∧ (∃ x4 : Bool, o = .inl (some (.int (mx_b x4))) ∧ ((x4 = false → Q (.inl none) M3) ∧ (x4 = true → (mx_W m_X6_signAt d 0 [.ref 4, .int v1] [] M3 (fun o M5 => mx_sh M5 = mx_sh M3 ∧ mx_R M5 = mx_R M3 ∧ (∃ x6 : Int32, o = .inl (some (.int x6)) ∧ (∀ M7, M7 = mx_setI M5 3 5 (((10 * (mx_I M3 3 5)) + x6) - 48) → (∀ M8, M8 = mx_setI M7 3 3 ((mx_I M7 3 3) + 1) → mx_W m_X8_scanNumber (d + 1) 15 [.ref 3, .int (v1 + 1)] [] M8 Q)))))))))))))))) :
    mx_W m_X8_scanNumber (d + 1) 15 [.ref 3, .int v1] [] M Q := by
  refine mx_iload_n 1 (mx_da t_X8_scanNumber 9 rfl) rfl rfl rfl ?_
  refine mx_aload_n 0 (mx_da t_X8_scanNumber 10 rfl) rfl rfl rfl rfl ?_
  refine mx_getI fs_RX8_18 rfl (tp_s T 3 rfl) (mx_da t_X8_scanNumber 11 rfl) rfl ?_
  refine mx_icmp_ge 76 (mx_da t_X8_scanNumber 12 rfl) rfl rfl (fun g9 => ?_) (fun g9 => ?_)
  · have h := h.1 g9
    exact mx_vret rfl (mx_da t_X8_scanNumber 40 rfl) h
  · have h := h.2 g9
    refine mx_aload_n 0 (mx_da t_X8_scanNumber 13 rfl) rfl rfl rfl rfl ?_
    refine mx_getR 4 fs_RX8_12 rfl (tp_s T 3 rfl) (tp_r T 1 rfl) (mx_da t_X8_scanNumber 14 rfl) rfl ?_
    refine mx_iload_n 1 (mx_da t_X8_scanNumber 15 rfl) rfl rfl rfl ?_
    refine mx_callV yX6_signAt m_X6_signAt [.int v1] mm_X6_signAt ml_RX8_41 im_X6_signAt se_X6_signAt (tp_s T 4 rfl) rfl rfl (Nat.le_of_ble_eq_true rfl) (mx_da t_X8_scanNumber 16 rfl) rfl (Nat.le_of_ble_eq_true rfl) rfl ?_
    refine mx_mono h ?_
    intro o M1 ho
    obtain ⟨e1, e2, ho⟩ := ho
    obtain ⟨x2, rfl, h⟩ := ho
    refine ⟨e1, ?_⟩
    have T := tp_of e1 e2 T
    clear e1 e2
    show mx_W m_X8_scanNumber (d + 1) 31 [.ref 3, .int v1] [.int x2] M1 Q
    refine mx_callS yX8_isDigit m_X8_isDigit [.int x2] mm_X8_isDigit ml_RX8_55 st_X8_isDigit rfl (Nat.le_of_ble_eq_true rfl) (mx_da t_X8_scanNumber 17 rfl) rfl (Nat.le_of_ble_eq_true rfl) rfl ?_
    refine mx_mono h ?_
    intro o M3 ho
    obtain ⟨e1, e2, ho⟩ := ho
    obtain ⟨x4, rfl, h⟩ := ho
    refine ⟨e1, ?_⟩
    have T := tp_of e1 e2 T
    clear e1 e2
    show mx_W m_X8_scanNumber (d + 1) 34 [.ref 3, .int v1] [.int (mx_b x4)] M3 Q
    refine mx_if_eq 76 (mx_da t_X8_scanNumber 18 rfl) rfl rfl (fun g9 => ?_) (fun g9 => ?_)
    · have h := h.1 (mx_b0.mp g9)
      exact mx_vret rfl (mx_da t_X8_scanNumber 40 rfl) h
    · have h := h.2 (mx_bn.mp g9)
      refine mx_aload_n 0 (mx_da t_X8_scanNumber 19 rfl) rfl rfl rfl rfl ?_
      refine mx_bipush (v := 10) (mx_da t_X8_scanNumber 20 rfl) rfl rfl ?_
      refine mx_aload_n 0 (mx_da t_X8_scanNumber 21 rfl) rfl rfl rfl rfl ?_
      refine mx_getI fs_RX8_31 rfl (tp_s T 3 rfl) (mx_da t_X8_scanNumber 22 rfl) rfl ?_
      refine mx_imul (mx_da t_X8_scanNumber 23 rfl) rfl ?_
      refine mx_aload_n 0 (mx_da t_X8_scanNumber 24 rfl) rfl rfl rfl rfl ?_
      refine mx_getR 4 fs_RX8_12 rfl (tp_s T 3 rfl) (tp_r T 1 rfl) (mx_da t_X8_scanNumber 25 rfl) rfl ?_
      refine mx_iload_n 1 (mx_da t_X8_scanNumber 26 rfl) rfl rfl rfl ?_
      refine mx_callV yX6_signAt m_X6_signAt [.int v1] mm_X6_signAt ml_RX8_41 im_X6_signAt se_X6_signAt (tp_s T 4 rfl) rfl rfl (Nat.le_of_ble_eq_true rfl) (mx_da t_X8_scanNumber 27 rfl) rfl (Nat.le_of_ble_eq_true rfl) rfl ?_
      refine mx_mono h ?_
      intro o M5 ho
      obtain ⟨e1, e2, ho⟩ := ho
      obtain ⟨x6, rfl, h⟩ := ho
      refine ⟨e1, ?_⟩
      have T := tp_of e1 e2 T
      clear e1 e2
      show mx_W m_X8_scanNumber (d + 1) 53 [.ref 3, .int v1] [.int x6, .int (10 * (mx_I M3 3 5)), .ref 3] M5 Q
      refine mx_iadd (mx_da t_X8_scanNumber 28 rfl) rfl ?_
      refine mx_bipush (v := 48) (mx_da t_X8_scanNumber 29 rfl) rfl rfl ?_
      refine mx_isub (mx_da t_X8_scanNumber 30 rfl) rfl ?_
      refine mx_putI fs_RX8_31 rfl (tp_s T 3 rfl) rfl rfl rfl (mx_da t_X8_scanNumber 31 rfl) rfl ?_
      refine mx_gen (mx_setI M5 3 5 (((10 * (mx_I M3 3 5)) + x6) - 48)) (fun M7 e9 => ?_)
      have h := h _ e9
      have T : mx_Tp M7 := tp_e e9 T
      refine mx_aload_n 0 (mx_da t_X8_scanNumber 32 rfl) rfl rfl rfl rfl ?_
      refine mx_dup (mx_da t_X8_scanNumber 33 rfl) rfl rfl ?_
      refine mx_getI fs_RX8_25 rfl (tp_s T 3 rfl) (mx_da t_X8_scanNumber 34 rfl) rfl ?_
      refine mx_iconst (v := 1) (mx_da t_X8_scanNumber 35 rfl) rfl rfl ?_
      refine mx_iadd (mx_da t_X8_scanNumber 36 rfl) rfl ?_
      refine mx_putI fs_RX8_25 rfl (tp_s T 3 rfl) rfl rfl rfl (mx_da t_X8_scanNumber 37 rfl) rfl ?_
      refine mx_gen (mx_setI M7 3 3 ((mx_I M7 3 3) + 1)) (fun M8 e9 => ?_)
      have h := h _ e9
      have T : mx_Tp M8 := tp_e e9 T
      refine mx_iinc 1 (v := v1 + 1) [.ref 3, .int (v1 + 1)] (mx_da t_X8_scanNumber 38 rfl) rfl (by decide) rfl rfl rfl ?_
      refine mx_goto (n := 15) (mx_da t_X8_scanNumber 39 rfl) rfl ?_
      exact h
set_option maxHeartbeats 1000000 in
theorem x_X8_isWord_0 {d : Nat} {M : mx_M} {Q : mx_O → mx_M → Prop} (T : mx_Tp M) (k : Nat) (hk : k < 33)
    (h : ((¬ (mx_I M 3 4) = (1 : Int32) → Q (.inl (some (.int (mx_b false)))) M) ∧ ((mx_I M 3 4) = (1 : Int32) → (mx_W m_J0_length_8abf5 d 0 [.retAddr (2 * k + 2)] [] M (fun o M1 => mx_sh M1 = mx_sh M ∧ mx_R M1 = mx_R M ∧ (∃ x2 : Int32, o = .inl (some (.int x2)) ∧ (((mx_I M 3 3) = x2 → mx_W m_X8_isWord (d + 1) 23 [.ref 3, .retAddr (2 * k + 2), .int 0] [] M1 Q) ∧ (¬ (mx_I M 3 3) = x2 → Q (.inl (some (.int (mx_b false)))) M1)))))))) :
    mx_W m_X8_isWord (d + 1) 0 [.ref 3, .retAddr (2 * k + 2), .retAddr 0] [] M Q := by
  refine mx_aload_n 0 (mx_da t_X8_isWord 0 rfl) rfl rfl rfl rfl ?_
  refine mx_getI fs_RX8_28 rfl (tp_s T 3 rfl) (mx_da t_X8_isWord 1 rfl) rfl ?_
  refine mx_iconst (v := 1) (mx_da t_X8_isWord 2 rfl) rfl rfl ?_
  refine mx_icmp_ne 19 (mx_da t_X8_isWord 3 rfl) rfl rfl (fun g9 => ?_) (fun g9 => ?_)
  · have h := h.1 g9
    refine mx_iconst (v := 0) (mx_da t_X8_isWord 9 rfl) rfl rfl ?_
    exact mx_zret rfl rfl (mx_da t_X8_isWord 10 rfl) h
  · have h := h.2 g9
    refine mx_aload_n 0 (mx_da t_X8_isWord 4 rfl) rfl rfl rfl rfl ?_
    refine mx_getI fs_RX8_25 rfl (tp_s T 3 rfl) (mx_da t_X8_isWord 5 rfl) rfl ?_
    refine mx_aload_n 1 (mx_da t_X8_isWord 6 rfl) rfl rfl rfl rfl ?_
    refine mx_callT yJ0_length_8abf5 m_J0_length_8abf5 [] hk mm_J0_length_8abf5 ml_RX8_70 im_J0_length_8abf5 se_J0_length_8abf5 rfl rfl (Nat.le_of_ble_eq_true rfl) (mx_da t_X8_isWord 7 rfl) rfl (Nat.le_of_ble_eq_true rfl) rfl ?_
    refine mx_mono h ?_
    intro o M1 ho
    obtain ⟨e1, e2, ho⟩ := ho
    obtain ⟨x2, rfl, h⟩ := ho
    refine ⟨e1, ?_⟩
    have T := tp_of e1 e2 T
    clear e1 e2
    show mx_W m_X8_isWord (d + 1) 16 [.ref 3, .retAddr (2 * k + 2), .retAddr 0] [.int x2, .int (mx_I M 3 3)] M1 Q
    refine mx_icmp_eq 21 (mx_da t_X8_isWord 8 rfl) rfl rfl (fun g9 => ?_) (fun g9 => ?_)
    · have h := h.1 g9
      refine mx_iconst (v := 0) (mx_da t_X8_isWord 11 rfl) rfl rfl ?_
      refine mx_istore_n 2 [.ref 3, .retAddr (2 * k + 2), .int 0] (mx_da t_X8_isWord 12 rfl) rfl rfl (by decide) rfl ?_
      exact h
    · have h := h.2 g9
      refine mx_iconst (v := 0) (mx_da t_X8_isWord 9 rfl) rfl rfl ?_
      exact mx_zret rfl rfl (mx_da t_X8_isWord 10 rfl) h
set_option maxHeartbeats 1000000 in
theorem x_X8_isWord_23 {d : Nat} {M : mx_M} {Q : mx_O → mx_M → Prop} (T : mx_Tp M) (k : Nat) (hk : k < 33) (v2 : Int32)
    (h : (mx_W m_J0_length_8abf5 d 0 [.retAddr (2 * k + 2)] [] M (fun o M1 => mx_sh M1 = mx_sh M ∧ mx_R M1 = mx_R M ∧ (∃ x2 : Int32, o = .inl (some (.int x2)) ∧ ((x2 ≤ v2 → Q (.inl (some (.int (mx_b true)))) M1) ∧ (¬ x2 ≤ v2 → (mx_W m_X6_signAt d 0 [.ref 4, .int ((mx_I M1 3 2) + v2)] [] M1 (fun o M3 => mx_sh M3 = mx_sh M1 ∧ mx_R M3 = mx_R M1 ∧ (∃ x4 : Int32, o = .inl (some (.int x4)) ∧ (mx_W m_J0_charAt_5068e d 0 [.retAddr (2 * k + 2), .int v2] [] M3 (fun o M5 => mx_sh M5 = mx_sh M3 ∧ mx_R M5 = mx_R M3 ∧ (∃ x6 : Int32, o = .inl (some (.int x6)) ∧ ((x4 = x6 → mx_W m_X8_isWord (d + 1) 23 [.ref 3, .retAddr (2 * k + 2), .int (v2 + 1)] [] M5 Q) ∧ (¬ x4 = x6 → Q (.inl (some (.int (mx_b false)))) M5)))))))))))))) :
    mx_W m_X8_isWord (d + 1) 23 [.ref 3, .retAddr (2 * k + 2), .int v2] [] M Q := by
  refine mx_iload_n 2 (mx_da t_X8_isWord 13 rfl) rfl rfl rfl ?_
  refine mx_aload_n 1 (mx_da t_X8_isWord 14 rfl) rfl rfl rfl rfl ?_
  refine mx_callT yJ0_length_8abf5 m_J0_length_8abf5 [] hk mm_J0_length_8abf5 ml_RX8_70 im_J0_length_8abf5 se_J0_length_8abf5 rfl rfl (Nat.le_of_ble_eq_true rfl) (mx_da t_X8_isWord 15 rfl) rfl (Nat.le_of_ble_eq_true rfl) rfl ?_
  refine mx_mono h ?_
  intro o M1 ho
  obtain ⟨e1, e2, ho⟩ := ho
  obtain ⟨x2, rfl, h⟩ := ho
  refine ⟨e1, ?_⟩
  have T := tp_of e1 e2 T
  clear e1 e2
  show mx_W m_X8_isWord (d + 1) 28 [.ref 3, .retAddr (2 * k + 2), .int v2] [.int x2, .int v2] M1 Q
  refine mx_icmp_ge 60 (mx_da t_X8_isWord 16 rfl) rfl rfl (fun g9 => ?_) (fun g9 => ?_)
  · have h := h.1 g9
    refine mx_iconst (v := 1) (mx_da t_X8_isWord 32 rfl) rfl rfl ?_
    exact mx_zret rfl rfl (mx_da t_X8_isWord 33 rfl) h
  · have h := h.2 g9
    refine mx_aload_n 0 (mx_da t_X8_isWord 17 rfl) rfl rfl rfl rfl ?_
    refine mx_getR 4 fs_RX8_12 rfl (tp_s T 3 rfl) (tp_r T 1 rfl) (mx_da t_X8_isWord 18 rfl) rfl ?_
    refine mx_aload_n 0 (mx_da t_X8_isWord 19 rfl) rfl rfl rfl rfl ?_
    refine mx_getI fs_RX8_22 rfl (tp_s T 3 rfl) (mx_da t_X8_isWord 20 rfl) rfl ?_
    refine mx_iload_n 2 (mx_da t_X8_isWord 21 rfl) rfl rfl rfl ?_
    refine mx_iadd (mx_da t_X8_isWord 22 rfl) rfl ?_
    refine mx_callV yX6_signAt m_X6_signAt [.int ((mx_I M1 3 2) + v2)] mm_X6_signAt ml_RX8_41 im_X6_signAt se_X6_signAt (tp_s T 4 rfl) rfl rfl (Nat.le_of_ble_eq_true rfl) (mx_da t_X8_isWord 23 rfl) rfl (Nat.le_of_ble_eq_true rfl) rfl ?_
    refine mx_mono h ?_
    intro o M3 ho
    obtain ⟨e1, e2, ho⟩ := ho
    obtain ⟨x4, rfl, h⟩ := ho
    refine ⟨e1, ?_⟩
    have T := tp_of e1 e2 T
    clear e1 e2
    show mx_W m_X8_isWord (d + 1) 44 [.ref 3, .retAddr (2 * k + 2), .int v2] [.int x4] M3 Q
    refine mx_aload_n 1 (mx_da t_X8_isWord 24 rfl) rfl rfl rfl rfl ?_
    refine mx_iload_n 2 (mx_da t_X8_isWord 25 rfl) rfl rfl rfl ?_
    refine mx_callT yJ0_charAt_5068e m_J0_charAt_5068e [.int v2] hk mm_J0_charAt_5068e ml_RX8_76 im_J0_charAt_5068e se_J0_charAt_5068e rfl rfl (Nat.le_of_ble_eq_true rfl) (mx_da t_X8_isWord 26 rfl) rfl (Nat.le_of_ble_eq_true rfl) rfl ?_
    refine mx_mono h ?_
    intro o M5 ho
    obtain ⟨e1, e2, ho⟩ := ho
    obtain ⟨x6, rfl, h⟩ := ho
    refine ⟨e1, ?_⟩
    have T := tp_of e1 e2 T
    clear e1 e2
    show mx_W m_X8_isWord (d + 1) 49 [.ref 3, .retAddr (2 * k + 2), .int v2] [.int x6, .int x4] M5 Q
    refine mx_icmp_eq 54 (mx_da t_X8_isWord 27 rfl) rfl rfl (fun g9 => ?_) (fun g9 => ?_)
    · have h := h.1 g9
      refine mx_iinc 2 (v := v2 + 1) [.ref 3, .retAddr (2 * k + 2), .int (v2 + 1)] (mx_da t_X8_isWord 30 rfl) rfl (by decide) rfl rfl rfl ?_
      refine mx_goto (n := 23) (mx_da t_X8_isWord 31 rfl) rfl ?_
      exact h
    · have h := h.2 g9
      refine mx_iconst (v := 0) (mx_da t_X8_isWord 28 rfl) rfl rfl ?_
      exact mx_zret rfl rfl (mx_da t_X8_isWord 29 rfl) h
set_option maxHeartbeats 1000000 in
theorem x_X8_isSign_0 {d : Nat} {M : mx_M} {Q : mx_O → mx_M → Prop} (T : mx_Tp M) (v1 : Int32)
    (h : ((¬ (mx_I M 3 4) = (3 : Int32) → Q (.inl (some (.int (mx_b false)))) M) ∧ ((mx_I M 3 4) = (3 : Int32) → ((¬ (mx_I M 3 5) = v1 → Q (.inl (some (.int (mx_b false)))) M) ∧ ((mx_I M 3 5) = v1 → Q (.inl (some (.int (mx_b true)))) M))))) :
    mx_W m_X8_isSign d 0 [.ref 3, .int v1] [] M Q := by
  refine mx_aload_n 0 (mx_da t_X8_isSign 0 rfl) rfl rfl rfl rfl ?_
  refine mx_getI fs_RX8_28 rfl (tp_s T 3 rfl) (mx_da t_X8_isSign 1 rfl) rfl ?_
  refine mx_iconst (v := 3) (mx_da t_X8_isSign 2 rfl) rfl rfl ?_
  refine mx_icmp_ne 20 (mx_da t_X8_isSign 3 rfl) rfl rfl (fun g9 => ?_) (fun g9 => ?_)
  · have h := h.1 g9
    refine mx_iconst (v := 0) (mx_da t_X8_isSign 10 rfl) rfl rfl ?_
    exact mx_zret rfl rfl (mx_da t_X8_isSign 11 rfl) h
  · have h := h.2 g9
    refine mx_aload_n 0 (mx_da t_X8_isSign 4 rfl) rfl rfl rfl rfl ?_
    refine mx_getI fs_RX8_31 rfl (tp_s T 3 rfl) (mx_da t_X8_isSign 5 rfl) rfl ?_
    refine mx_iload_n 1 (mx_da t_X8_isSign 6 rfl) rfl rfl rfl ?_
    refine mx_icmp_ne 20 (mx_da t_X8_isSign 7 rfl) rfl rfl (fun g9 => ?_) (fun g9 => ?_)
    · have h := h.1 g9
      refine mx_iconst (v := 0) (mx_da t_X8_isSign 10 rfl) rfl rfl ?_
      exact mx_zret rfl rfl (mx_da t_X8_isSign 11 rfl) h
    · have h := h.2 g9
      refine mx_iconst (v := 1) (mx_da t_X8_isSign 8 rfl) rfl rfl ?_
      refine mx_goto (n := 21) (mx_da t_X8_isSign 9 rfl) rfl ?_
      exact mx_zret rfl rfl (mx_da t_X8_isSign 11 rfl) h
set_option maxHeartbeats 1000000 in
theorem x_X8_isBlank_0 {d : Nat} {M : mx_M} {Q : mx_O → mx_M → Prop} (T : mx_Tp M) (v0 : Int32)
    (h : ((v0 = (32 : Int32) → Q (.inl (some (.int (mx_b true)))) M) ∧ (¬ v0 = (32 : Int32) → ((¬ v0 = (10 : Int32) → Q (.inl (some (.int (mx_b false)))) M) ∧ (v0 = (10 : Int32) → Q (.inl (some (.int (mx_b true)))) M))))) :
    mx_W m_X8_isBlank d 0 [.int v0] [] M Q := by
  refine mx_iload_n 0 (mx_da t_X8_isBlank 0 rfl) rfl rfl rfl ?_
  refine mx_bipush (v := 32) (mx_da t_X8_isBlank 1 rfl) rfl rfl ?_
  refine mx_icmp_eq 12 (mx_da t_X8_isBlank 2 rfl) rfl rfl (fun g9 => ?_) (fun g9 => ?_)
  · have h := h.1 g9
    refine mx_iconst (v := 1) (mx_da t_X8_isBlank 6 rfl) rfl rfl ?_
    refine mx_goto (n := 17) (mx_da t_X8_isBlank 7 rfl) rfl ?_
    exact mx_zret rfl rfl (mx_da t_X8_isBlank 9 rfl) h
  · have h := h.2 g9
    refine mx_iload_n 0 (mx_da t_X8_isBlank 3 rfl) rfl rfl rfl ?_
    refine mx_bipush (v := 10) (mx_da t_X8_isBlank 4 rfl) rfl rfl ?_
    refine mx_icmp_ne 16 (mx_da t_X8_isBlank 5 rfl) rfl rfl (fun g9 => ?_) (fun g9 => ?_)
    · have h := h.1 g9
      refine mx_iconst (v := 0) (mx_da t_X8_isBlank 8 rfl) rfl rfl ?_
      exact mx_zret rfl rfl (mx_da t_X8_isBlank 9 rfl) h
    · have h := h.2 g9
      refine mx_iconst (v := 1) (mx_da t_X8_isBlank 6 rfl) rfl rfl ?_
      refine mx_goto (n := 17) (mx_da t_X8_isBlank 7 rfl) rfl ?_
      exact mx_zret rfl rfl (mx_da t_X8_isBlank 9 rfl) h
set_option maxHeartbeats 1000000 in
theorem x_X8_isLetter_0 {d : Nat} {M : mx_M} {Q : mx_O → mx_M → Prop} (T : mx_Tp M) (v0 : Int32)
    (h : ((v0 < (97 : Int32) → Q (.inl (some (.int (mx_b false)))) M) ∧ (¬ v0 < (97 : Int32) → (((122 : Int32) < v0 → Q (.inl (some (.int (mx_b false)))) M) ∧ (¬ (122 : Int32) < v0 → Q (.inl (some (.int (mx_b true)))) M))))) :
    mx_W m_X8_isLetter d 0 [.int v0] [] M Q := by
  refine mx_iload_n 0 (mx_da t_X8_isLetter 0 rfl) rfl rfl rfl ?_
  refine mx_bipush (v := 97) (mx_da t_X8_isLetter 1 rfl) rfl rfl ?_
  refine mx_icmp_lt 16 (mx_da t_X8_isLetter 2 rfl) rfl rfl (fun g9 => ?_) (fun g9 => ?_)
  · have h := h.1 g9
    refine mx_iconst (v := 0) (mx_da t_X8_isLetter 8 rfl) rfl rfl ?_
    exact mx_zret rfl rfl (mx_da t_X8_isLetter 9 rfl) h
  · have h := h.2 g9
    refine mx_iload_n 0 (mx_da t_X8_isLetter 3 rfl) rfl rfl rfl ?_
    refine mx_bipush (v := 122) (mx_da t_X8_isLetter 4 rfl) rfl rfl ?_
    refine mx_icmp_gt 16 (mx_da t_X8_isLetter 5 rfl) rfl rfl (fun g9 => ?_) (fun g9 => ?_)
    · have h := h.1 g9
      refine mx_iconst (v := 0) (mx_da t_X8_isLetter 8 rfl) rfl rfl ?_
      exact mx_zret rfl rfl (mx_da t_X8_isLetter 9 rfl) h
    · have h := h.2 g9
      refine mx_iconst (v := 1) (mx_da t_X8_isLetter 6 rfl) rfl rfl ?_
      refine mx_goto (n := 17) (mx_da t_X8_isLetter 7 rfl) rfl ?_
      exact mx_zret rfl rfl (mx_da t_X8_isLetter 9 rfl) h
set_option maxHeartbeats 1000000 in
theorem x_X8_isDigit_0 {d : Nat} {M : mx_M} {Q : mx_O → mx_M → Prop} (T : mx_Tp M) (v0 : Int32)
    (h : ((v0 < (48 : Int32) → Q (.inl (some (.int (mx_b false)))) M) ∧ (¬ v0 < (48 : Int32) → (((57 : Int32) < v0 → Q (.inl (some (.int (mx_b false)))) M) ∧ (¬ (57 : Int32) < v0 → Q (.inl (some (.int (mx_b true)))) M))))) :
    mx_W m_X8_isDigit d 0 [.int v0] [] M Q := by
  refine mx_iload_n 0 (mx_da t_X8_isDigit 0 rfl) rfl rfl rfl ?_
  refine mx_bipush (v := 48) (mx_da t_X8_isDigit 1 rfl) rfl rfl ?_
  refine mx_icmp_lt 16 (mx_da t_X8_isDigit 2 rfl) rfl rfl (fun g9 => ?_) (fun g9 => ?_)
  · have h := h.1 g9
    refine mx_iconst (v := 0) (mx_da t_X8_isDigit 8 rfl) rfl rfl ?_
    exact mx_zret rfl rfl (mx_da t_X8_isDigit 9 rfl) h
  · have h := h.2 g9
    refine mx_iload_n 0 (mx_da t_X8_isDigit 3 rfl) rfl rfl rfl ?_
    refine mx_bipush (v := 57) (mx_da t_X8_isDigit 4 rfl) rfl rfl ?_
    refine mx_icmp_gt 16 (mx_da t_X8_isDigit 5 rfl) rfl rfl (fun g9 => ?_) (fun g9 => ?_)
    · have h := h.1 g9
      refine mx_iconst (v := 0) (mx_da t_X8_isDigit 8 rfl) rfl rfl ?_
      exact mx_zret rfl rfl (mx_da t_X8_isDigit 9 rfl) h
    · have h := h.2 g9
      refine mx_iconst (v := 1) (mx_da t_X8_isDigit 6 rfl) rfl rfl ?_
      refine mx_goto (n := 17) (mx_da t_X8_isDigit 7 rfl) rfl ?_
      exact mx_zret rfl rfl (mx_da t_X8_isDigit 9 rfl) h
set_option maxHeartbeats 1000000 in
theorem x_X8_isMark_0 {d : Nat} {M : mx_M} {Q : mx_O → mx_M → Prop} (T : mx_Tp M) (v0 : Int32)
    (h : ((v0 = (59 : Int32) → Q (.inl (some (.int (mx_b true)))) M) ∧ (¬ v0 = (59 : Int32) → ((v0 = (40 : Int32) → Q (.inl (some (.int (mx_b true)))) M) ∧ (¬ v0 = (40 : Int32) → ((v0 = (41 : Int32) → Q (.inl (some (.int (mx_b true)))) M) ∧ (¬ v0 = (41 : Int32) → ((v0 = (43 : Int32) → Q (.inl (some (.int (mx_b true)))) M) ∧ (¬ v0 = (43 : Int32) → ((v0 = (45 : Int32) → Q (.inl (some (.int (mx_b true)))) M) ∧ (¬ v0 = (45 : Int32) → ((v0 = (42 : Int32) → Q (.inl (some (.int (mx_b true)))) M) ∧ (¬ v0 = (42 : Int32) → ((v0 = (47 : Int32) → Q (.inl (some (.int (mx_b true)))) M) ∧ (¬ v0 = (47 : Int32) → ((v0 = (60 : Int32) → Q (.inl (some (.int (mx_b true)))) M) ∧ (¬ v0 = (60 : Int32) → ((¬ v0 = (61 : Int32) → Q (.inl (some (.int (mx_b false)))) M) ∧ (v0 = (61 : Int32) → Q (.inl (some (.int (mx_b true)))) M))))))))))))))))))) :
    mx_W m_X8_isMark d 0 [.int v0] [] M Q := by
  refine mx_iload_n 0 (mx_da t_X8_isMark 0 rfl) rfl rfl rfl ?_
  refine mx_bipush (v := 59) (mx_da t_X8_isMark 1 rfl) rfl rfl ?_
  refine mx_icmp_eq 54 (mx_da t_X8_isMark 2 rfl) rfl rfl (fun g9 => ?_) (fun g9 => ?_)
  · have h := h.1 g9
    refine mx_iconst (v := 1) (mx_da t_X8_isMark 27 rfl) rfl rfl ?_
    refine mx_goto (n := 59) (mx_da t_X8_isMark 28 rfl) rfl ?_
    exact mx_zret rfl rfl (mx_da t_X8_isMark 30 rfl) h
  · have h := h.2 g9
    refine mx_iload_n 0 (mx_da t_X8_isMark 3 rfl) rfl rfl rfl ?_
    refine mx_bipush (v := 40) (mx_da t_X8_isMark 4 rfl) rfl rfl ?_
    refine mx_icmp_eq 54 (mx_da t_X8_isMark 5 rfl) rfl rfl (fun g9 => ?_) (fun g9 => ?_)
    · have h := h.1 g9
      refine mx_iconst (v := 1) (mx_da t_X8_isMark 27 rfl) rfl rfl ?_
      refine mx_goto (n := 59) (mx_da t_X8_isMark 28 rfl) rfl ?_
      exact mx_zret rfl rfl (mx_da t_X8_isMark 30 rfl) h
    · have h := h.2 g9
      refine mx_iload_n 0 (mx_da t_X8_isMark 6 rfl) rfl rfl rfl ?_
      refine mx_bipush (v := 41) (mx_da t_X8_isMark 7 rfl) rfl rfl ?_
      refine mx_icmp_eq 54 (mx_da t_X8_isMark 8 rfl) rfl rfl (fun g9 => ?_) (fun g9 => ?_)
      · have h := h.1 g9
        refine mx_iconst (v := 1) (mx_da t_X8_isMark 27 rfl) rfl rfl ?_
        refine mx_goto (n := 59) (mx_da t_X8_isMark 28 rfl) rfl ?_
        exact mx_zret rfl rfl (mx_da t_X8_isMark 30 rfl) h
      · have h := h.2 g9
        refine mx_iload_n 0 (mx_da t_X8_isMark 9 rfl) rfl rfl rfl ?_
        refine mx_bipush (v := 43) (mx_da t_X8_isMark 10 rfl) rfl rfl ?_
        refine mx_icmp_eq 54 (mx_da t_X8_isMark 11 rfl) rfl rfl (fun g9 => ?_) (fun g9 => ?_)
        · have h := h.1 g9
          refine mx_iconst (v := 1) (mx_da t_X8_isMark 27 rfl) rfl rfl ?_
          refine mx_goto (n := 59) (mx_da t_X8_isMark 28 rfl) rfl ?_
          exact mx_zret rfl rfl (mx_da t_X8_isMark 30 rfl) h
        · have h := h.2 g9
          refine mx_iload_n 0 (mx_da t_X8_isMark 12 rfl) rfl rfl rfl ?_
          refine mx_bipush (v := 45) (mx_da t_X8_isMark 13 rfl) rfl rfl ?_
          refine mx_icmp_eq 54 (mx_da t_X8_isMark 14 rfl) rfl rfl (fun g9 => ?_) (fun g9 => ?_)
          · have h := h.1 g9
            refine mx_iconst (v := 1) (mx_da t_X8_isMark 27 rfl) rfl rfl ?_
            refine mx_goto (n := 59) (mx_da t_X8_isMark 28 rfl) rfl ?_
            exact mx_zret rfl rfl (mx_da t_X8_isMark 30 rfl) h
          · have h := h.2 g9
            refine mx_iload_n 0 (mx_da t_X8_isMark 15 rfl) rfl rfl rfl ?_
            refine mx_bipush (v := 42) (mx_da t_X8_isMark 16 rfl) rfl rfl ?_
            refine mx_icmp_eq 54 (mx_da t_X8_isMark 17 rfl) rfl rfl (fun g9 => ?_) (fun g9 => ?_)
            · have h := h.1 g9
              refine mx_iconst (v := 1) (mx_da t_X8_isMark 27 rfl) rfl rfl ?_
              refine mx_goto (n := 59) (mx_da t_X8_isMark 28 rfl) rfl ?_
              exact mx_zret rfl rfl (mx_da t_X8_isMark 30 rfl) h
            · have h := h.2 g9
              refine mx_iload_n 0 (mx_da t_X8_isMark 18 rfl) rfl rfl rfl ?_
              refine mx_bipush (v := 47) (mx_da t_X8_isMark 19 rfl) rfl rfl ?_
              refine mx_icmp_eq 54 (mx_da t_X8_isMark 20 rfl) rfl rfl (fun g9 => ?_) (fun g9 => ?_)
              · have h := h.1 g9
                refine mx_iconst (v := 1) (mx_da t_X8_isMark 27 rfl) rfl rfl ?_
                refine mx_goto (n := 59) (mx_da t_X8_isMark 28 rfl) rfl ?_
                exact mx_zret rfl rfl (mx_da t_X8_isMark 30 rfl) h
              · have h := h.2 g9
                refine mx_iload_n 0 (mx_da t_X8_isMark 21 rfl) rfl rfl rfl ?_
                refine mx_bipush (v := 60) (mx_da t_X8_isMark 22 rfl) rfl rfl ?_
                refine mx_icmp_eq 54 (mx_da t_X8_isMark 23 rfl) rfl rfl (fun g9 => ?_) (fun g9 => ?_)
                · have h := h.1 g9
                  refine mx_iconst (v := 1) (mx_da t_X8_isMark 27 rfl) rfl rfl ?_
                  refine mx_goto (n := 59) (mx_da t_X8_isMark 28 rfl) rfl ?_
                  exact mx_zret rfl rfl (mx_da t_X8_isMark 30 rfl) h
                · have h := h.2 g9
                  refine mx_iload_n 0 (mx_da t_X8_isMark 24 rfl) rfl rfl rfl ?_
                  refine mx_bipush (v := 61) (mx_da t_X8_isMark 25 rfl) rfl rfl ?_
                  refine mx_icmp_ne 58 (mx_da t_X8_isMark 26 rfl) rfl rfl (fun g9 => ?_) (fun g9 => ?_)
                  · have h := h.1 g9
                    refine mx_iconst (v := 0) (mx_da t_X8_isMark 29 rfl) rfl rfl ?_
                    exact mx_zret rfl rfl (mx_da t_X8_isMark 30 rfl) h
                  · have h := h.2 g9
                    refine mx_iconst (v := 1) (mx_da t_X8_isMark 27 rfl) rfl rfl ?_
                    refine mx_goto (n := 59) (mx_da t_X8_isMark 28 rfl) rfl ?_
                    exact mx_zret rfl rfl (mx_da t_X8_isMark 30 rfl) h
