/-! the law's wrappers (by tools/mklaw.py) -/
theorem cl_RL_13 : Cond.classLink RL 13 "java/lang/IllegalArgumentException" ∈ lw_tbl := tb_3 _ (List.mem_of_getElem? (i := 40) rfl)
theorem cl_RL_18 : Cond.classLink RL 18 "java/util/NoSuchElementException" ∈ lw_tbl := tb_4 _ (List.mem_of_getElem? (i := 176) rfl)
theorem ca_NSE : Cond.castable "java/util/NoSuchElementException" "java/util/NoSuchElementException" ∈ lw_tbl := tb_4 _ (List.mem_of_getElem? (i := 187) rfl)
theorem ca_IAE : Cond.castable "java/lang/IllegalArgumentException" "java/lang/IllegalArgumentException" ∈ lw_tbl := tb_3 _ (List.mem_of_getElem? (i := 47) rfl)
def m_L_catalogue : mx_Me := (RL, cL_catalogue, 4, (some .int), tableOf [(0, 9, 12, 13)], "catalogue")
theorem mm_L_catalogue : mx_MtX yL_catalogue m_L_catalogue [(0, 9, 12, 13)] := ⟨rfl, tb_3 _ (List.mem_of_getElem? (i := 39) rfl), rfl, by decide +kernel, ⟨by decide, by decide⟩, by decide, tb_1 _ (List.mem_of_getElem? (i := 0) rfl), rfl⟩
theorem st_L_catalogue : Cond.static yL_catalogue ∈ lw_tbl := tb_3 _ (List.mem_of_getElem? (i := 38) rfl)
theorem t_L_catalogue : mx_dec cL_catalogue [(0, .aload_n 2, 1), (1, .iconst 0, 1), (2, .aload_n 0, 1), (3, .iload_n 1, 1), (4, .invokevirtual 7, 3), (7, .i2l, 1), (8, .lastore, 1), (9, .goto 6, 3), (12, .astore_n 3, 1), (13, .iconst 1, 1), (14, .ireturn, 1), (15, .iconst 0, 1), (16, .ireturn, 1)] = true := by decide +kernel
set_option maxHeartbeats 1000000 in
theorem x_L_catalogue_0 {d : Nat} {M : mx_M} {Q : mx_O → mx_M → Prop} (T : mx_Tp M) (v1 : Int32)
    (h : (mx_W m_X10_catalogue d 0 [.ref 1, .int v1, .retAddr 0] [] M (fun o M1 => mx_Tp M1 ∧ ((∃ x2 : Int32, o = .inl (some (.int x2)) ∧ (∀ M3, M3 = mx_setJ M1 98 0 (x2.toInt64) → Q (.inl (some (.int 0))) M3)) ∨ (o = .inr IAE ∧ Q (.inl (some (.int 1))) M1))))) :
    mx_W m_L_catalogue (d + 1) 0 [.ref 1, .int v1, .ref 98, .retAddr 0] [] M Q := by
  refine mx_aload_n 2 (mx_da t_L_catalogue 0 rfl) rfl rfl rfl rfl ?_
  refine mx_iconst (v := 0) (mx_da t_L_catalogue 1 rfl) rfl rfl ?_
  refine mx_aload_n 0 (mx_da t_L_catalogue 2 rfl) rfl rfl rfl rfl ?_
  refine mx_iload_n 1 (mx_da t_L_catalogue 3 rfl) rfl rfl rfl ?_
  refine mx_callVH yX10_catalogue m_X10_catalogue [.int v1] mm_X10_catalogue ml_RL_7 im_X10_catalogue se_X10_catalogue (tp_s T 1 rfl) rfl rfl (Nat.le_of_ble_eq_true rfl) (mx_da t_L_catalogue 4 rfl) rfl (Nat.le_of_ble_eq_true rfl) ?_
  refine mx_mono h ?_
  intro o M1 ho
  obtain ⟨T1, ho⟩ := ho
  rcases ho with ⟨x2, rfl, h⟩ | ⟨rfl, h⟩
  · have e1 := T1.1.trans T.1.symm
    refine ⟨e1, ?_⟩
    have T := T1
    show mx_W m_L_catalogue (d + 1) 7 [.ref 1, .int v1, .ref 98, .retAddr 0] [.int x2, .int 0, .ref 98] M1 Q
    refine mx_i2l (mx_da t_L_catalogue 5 rfl) rfl ?_
    refine mx_last (tp_s T 98 rfl) (mx_vin rfl) (mx_da t_L_catalogue 6 rfl) rfl ?_
    refine mx_gen (mx_setJ M1 98 0 (x2.toInt64)) (fun M3 e9 => ?_)
    have h := h _ e9
    have T : mx_Tp M3 := tp_e e9 T
    refine mx_goto (n := 15) (mx_da t_L_catalogue 7 rfl) rfl ?_
    refine mx_iconst (v := 0) (mx_da t_L_catalogue 11 rfl) rfl rfl ?_
    exact mx_iret rfl (mx_da t_L_catalogue 12 rfl) h
  · have e1 := T1.1.trans T.1.symm
    refine ⟨e1, 12, 13, 3, ⟨⟨⟨0, 9, 12, 13⟩, [], "java/lang/IllegalArgumentException", rfl, by decide, by decide, cl_RL_13, ca_IAE, Or.inl rfl⟩, by decide, Or.inl ⟨3, (mx_da t_L_catalogue 8 rfl), rfl, rfl⟩⟩, ?_⟩
    have T := T1
    show mx_W m_L_catalogue (d + 1) 13 [.ref 1, .int v1, .ref 98, .retAddr 0] [] M1 Q
    refine mx_iconst (v := 1) (mx_da t_L_catalogue 9 rfl) rfl rfl ?_
    exact mx_iret rfl (mx_da t_L_catalogue 10 rfl) h
def m_L_count : mx_Me := (RL, cL_count, 4, (some .int), tableOf [(0, 9, 12, 18)], "count")
theorem mm_L_count : mx_MtX yL_count m_L_count [(0, 9, 12, 18)] := ⟨rfl, tb_4 _ (List.mem_of_getElem? (i := 175) rfl), rfl, by decide +kernel, ⟨by decide, by decide⟩, by decide, tb_1 _ (List.mem_of_getElem? (i := 0) rfl), rfl⟩
theorem st_L_count : Cond.static yL_count ∈ lw_tbl := tb_4 _ (List.mem_of_getElem? (i := 174) rfl)
theorem t_L_count : mx_dec cL_count [(0, .aload_n 2, 1), (1, .iconst 0, 1), (2, .aload_n 0, 1), (3, .iload_n 1, 1), (4, .invokevirtual 15, 3), (7, .i2l, 1), (8, .lastore, 1), (9, .goto 6, 3), (12, .astore_n 3, 1), (13, .iconst 1, 1), (14, .ireturn, 1), (15, .iconst 0, 1), (16, .ireturn, 1)] = true := by decide +kernel
set_option maxHeartbeats 1000000 in
theorem x_L_count_0 {d : Nat} {M : mx_M} {Q : mx_O → mx_M → Prop} (T : mx_Tp M) (v1 : Int32)
    (h : (mx_W m_X10_count d 0 [.ref 1, .int v1] [] M (fun o M1 => mx_Tp M1 ∧ ((∃ x2 : Int32, o = .inl (some (.int x2)) ∧ (∀ M3, M3 = mx_setJ M1 98 0 (x2.toInt64) → Q (.inl (some (.int 0))) M3)) ∨ (o = .inr NSE ∧ Q (.inl (some (.int 1))) M1))))) :
    mx_W m_L_count (d + 1) 0 [.ref 1, .int v1, .ref 98, .retAddr 0] [] M Q := by
  refine mx_aload_n 2 (mx_da t_L_count 0 rfl) rfl rfl rfl rfl ?_
  refine mx_iconst (v := 0) (mx_da t_L_count 1 rfl) rfl rfl ?_
  refine mx_aload_n 0 (mx_da t_L_count 2 rfl) rfl rfl rfl rfl ?_
  refine mx_iload_n 1 (mx_da t_L_count 3 rfl) rfl rfl rfl ?_
  refine mx_callVH yX10_count m_X10_count [.int v1] mm_X10_count ml_RL_15 im_X10_count se_X10_count (tp_s T 1 rfl) rfl rfl (Nat.le_of_ble_eq_true rfl) (mx_da t_L_count 4 rfl) rfl (Nat.le_of_ble_eq_true rfl) ?_
  refine mx_mono h ?_
  intro o M1 ho
  obtain ⟨T1, ho⟩ := ho
  rcases ho with ⟨x2, rfl, h⟩ | ⟨rfl, h⟩
  · have e1 := T1.1.trans T.1.symm
    refine ⟨e1, ?_⟩
    have T := T1
    show mx_W m_L_count (d + 1) 7 [.ref 1, .int v1, .ref 98, .retAddr 0] [.int x2, .int 0, .ref 98] M1 Q
    refine mx_i2l (mx_da t_L_count 5 rfl) rfl ?_
    refine mx_last (tp_s T 98 rfl) (mx_vin rfl) (mx_da t_L_count 6 rfl) rfl ?_
    refine mx_gen (mx_setJ M1 98 0 (x2.toInt64)) (fun M3 e9 => ?_)
    have h := h _ e9
    have T : mx_Tp M3 := tp_e e9 T
    refine mx_goto (n := 15) (mx_da t_L_count 7 rfl) rfl ?_
    refine mx_iconst (v := 0) (mx_da t_L_count 11 rfl) rfl rfl ?_
    exact mx_iret rfl (mx_da t_L_count 12 rfl) h
  · have e1 := T1.1.trans T.1.symm
    refine ⟨e1, 12, 13, 3, ⟨⟨⟨0, 9, 12, 18⟩, [], "java/util/NoSuchElementException", rfl, by decide, by decide, cl_RL_18, ca_NSE, Or.inl rfl⟩, by decide, Or.inl ⟨3, (mx_da t_L_count 8 rfl), rfl, rfl⟩⟩, ?_⟩
    have T := T1
    show mx_W m_L_count (d + 1) 13 [.ref 1, .int v1, .ref 98, .retAddr 0] [] M1 Q
    refine mx_iconst (v := 1) (mx_da t_L_count 9 rfl) rfl rfl ?_
    exact mx_iret rfl (mx_da t_L_count 10 rfl) h
def m_L_card : mx_Me := (RL, cL_card, 5, (some .int), tableOf [(0, 10, 13, 18)], "card")
theorem mm_L_card : mx_MtX yL_card m_L_card [(0, 10, 13, 18)] := ⟨rfl, tb_4 _ (List.mem_of_getElem? (i := 203) rfl), rfl, by decide +kernel, ⟨by decide, by decide⟩, by decide, tb_1 _ (List.mem_of_getElem? (i := 0) rfl), rfl⟩
theorem st_L_card : Cond.static yL_card ∈ lw_tbl := tb_4 _ (List.mem_of_getElem? (i := 202) rfl)
theorem t_L_card : mx_dec cL_card [(0, .aload_n 3, 1), (1, .iconst 0, 1), (2, .aload_n 0, 1), (3, .iload_n 1, 1), (4, .iload_n 2, 1), (5, .invokevirtual 20, 3), (8, .i2l, 1), (9, .lastore, 1), (10, .goto 7, 3), (13, .astore 4, 2), (15, .iconst 1, 1), (16, .ireturn, 1), (17, .iconst 0, 1), (18, .ireturn, 1)] = true := by decide +kernel
set_option maxHeartbeats 1000000 in
theorem x_L_card_0 {d : Nat} {M : mx_M} {Q : mx_O → mx_M → Prop} (T : mx_Tp M) (v1 : Int32) (v2 : Int32)
    (h : (mx_W m_X10_card d 0 [.ref 1, .int v1, .int v2] [] M (fun o M1 => mx_Tp M1 ∧ ((∃ x2 : Int32, o = .inl (some (.int x2)) ∧ (∀ M3, M3 = mx_setJ M1 98 0 (x2.toInt64) → Q (.inl (some (.int 0))) M3)) ∨ (o = .inr NSE ∧ Q (.inl (some (.int 1))) M1))))) :
    mx_W m_L_card (d + 1) 0 [.ref 1, .int v1, .int v2, .ref 98, .retAddr 0] [] M Q := by
  refine mx_aload_n 3 (mx_da t_L_card 0 rfl) rfl rfl rfl rfl ?_
  refine mx_iconst (v := 0) (mx_da t_L_card 1 rfl) rfl rfl ?_
  refine mx_aload_n 0 (mx_da t_L_card 2 rfl) rfl rfl rfl rfl ?_
  refine mx_iload_n 1 (mx_da t_L_card 3 rfl) rfl rfl rfl ?_
  refine mx_iload_n 2 (mx_da t_L_card 4 rfl) rfl rfl rfl ?_
  refine mx_callVH yX10_card m_X10_card [.int v1, .int v2] mm_X10_card ml_RL_20 im_X10_card se_X10_card (tp_s T 1 rfl) rfl rfl (Nat.le_of_ble_eq_true rfl) (mx_da t_L_card 5 rfl) rfl (Nat.le_of_ble_eq_true rfl) ?_
  refine mx_mono h ?_
  intro o M1 ho
  obtain ⟨T1, ho⟩ := ho
  rcases ho with ⟨x2, rfl, h⟩ | ⟨rfl, h⟩
  · have e1 := T1.1.trans T.1.symm
    refine ⟨e1, ?_⟩
    have T := T1
    show mx_W m_L_card (d + 1) 8 [.ref 1, .int v1, .int v2, .ref 98, .retAddr 0] [.int x2, .int 0, .ref 98] M1 Q
    refine mx_i2l (mx_da t_L_card 6 rfl) rfl ?_
    refine mx_last (tp_s T 98 rfl) (mx_vin rfl) (mx_da t_L_card 7 rfl) rfl ?_
    refine mx_gen (mx_setJ M1 98 0 (x2.toInt64)) (fun M3 e9 => ?_)
    have h := h _ e9
    have T : mx_Tp M3 := tp_e e9 T
    refine mx_goto (n := 17) (mx_da t_L_card 8 rfl) rfl ?_
    refine mx_iconst (v := 0) (mx_da t_L_card 12 rfl) rfl rfl ?_
    exact mx_iret rfl (mx_da t_L_card 13 rfl) h
  · have e1 := T1.1.trans T.1.symm
    refine ⟨e1, 13, 15, 4, ⟨⟨⟨0, 10, 13, 18⟩, [], "java/util/NoSuchElementException", rfl, by decide, by decide, cl_RL_18, ca_NSE, Or.inl rfl⟩, by decide, Or.inr ⟨(mx_da t_L_card 9 rfl), rfl⟩⟩, ?_⟩
    have T := T1
    show mx_W m_L_card (d + 1) 15 [.ref 1, .int v1, .int v2, .ref 98, .retAddr 0] [] M1 Q
    refine mx_iconst (v := 1) (mx_da t_L_card 10 rfl) rfl rfl ?_
    exact mx_iret rfl (mx_da t_L_card 11 rfl) h
def m_L_clerk : mx_Me := (RL, cL_clerk, 5, (some .int), tableOf [(0, 10, 13, 18)], "clerk")
theorem mm_L_clerk : mx_MtX yL_clerk m_L_clerk [(0, 10, 13, 18)] := ⟨rfl, tb_4 _ (List.mem_of_getElem? (i := 225) rfl), rfl, by decide +kernel, ⟨by decide, by decide⟩, by decide, tb_1 _ (List.mem_of_getElem? (i := 0) rfl), rfl⟩
theorem st_L_clerk : Cond.static yL_clerk ∈ lw_tbl := tb_4 _ (List.mem_of_getElem? (i := 224) rfl)
theorem t_L_clerk : mx_dec cL_clerk [(0, .aload_n 3, 1), (1, .iconst 0, 1), (2, .aload_n 0, 1), (3, .iload_n 1, 1), (4, .iload_n 2, 1), (5, .invokevirtual 24, 3), (8, .i2l, 1), (9, .lastore, 1), (10, .goto 7, 3), (13, .astore 4, 2), (15, .iconst 1, 1), (16, .ireturn, 1), (17, .iconst 0, 1), (18, .ireturn, 1)] = true := by decide +kernel
set_option maxHeartbeats 1000000 in
theorem x_L_clerk_0 {d : Nat} {M : mx_M} {Q : mx_O → mx_M → Prop} (T : mx_Tp M) (v1 : Int32) (v2 : Int32)
    (h : (mx_W m_X10_clerk d 0 [.ref 1, .int v1, .int v2] [] M (fun o M1 => mx_Tp M1 ∧ ((∃ x2 : Int32, o = .inl (some (.int x2)) ∧ (∀ M3, M3 = mx_setJ M1 98 0 (x2.toInt64) → Q (.inl (some (.int 0))) M3)) ∨ (o = .inr NSE ∧ Q (.inl (some (.int 1))) M1))))) :
    mx_W m_L_clerk (d + 1) 0 [.ref 1, .int v1, .int v2, .ref 98, .retAddr 0] [] M Q := by
  refine mx_aload_n 3 (mx_da t_L_clerk 0 rfl) rfl rfl rfl rfl ?_
  refine mx_iconst (v := 0) (mx_da t_L_clerk 1 rfl) rfl rfl ?_
  refine mx_aload_n 0 (mx_da t_L_clerk 2 rfl) rfl rfl rfl rfl ?_
  refine mx_iload_n 1 (mx_da t_L_clerk 3 rfl) rfl rfl rfl ?_
  refine mx_iload_n 2 (mx_da t_L_clerk 4 rfl) rfl rfl rfl ?_
  refine mx_callVH yX10_clerk m_X10_clerk [.int v1, .int v2] mm_X10_clerk ml_RL_24 im_X10_clerk se_X10_clerk (tp_s T 1 rfl) rfl rfl (Nat.le_of_ble_eq_true rfl) (mx_da t_L_clerk 5 rfl) rfl (Nat.le_of_ble_eq_true rfl) ?_
  refine mx_mono h ?_
  intro o M1 ho
  obtain ⟨T1, ho⟩ := ho
  rcases ho with ⟨x2, rfl, h⟩ | ⟨rfl, h⟩
  · have e1 := T1.1.trans T.1.symm
    refine ⟨e1, ?_⟩
    have T := T1
    show mx_W m_L_clerk (d + 1) 8 [.ref 1, .int v1, .int v2, .ref 98, .retAddr 0] [.int x2, .int 0, .ref 98] M1 Q
    refine mx_i2l (mx_da t_L_clerk 6 rfl) rfl ?_
    refine mx_last (tp_s T 98 rfl) (mx_vin rfl) (mx_da t_L_clerk 7 rfl) rfl ?_
    refine mx_gen (mx_setJ M1 98 0 (x2.toInt64)) (fun M3 e9 => ?_)
    have h := h _ e9
    have T : mx_Tp M3 := tp_e e9 T
    refine mx_goto (n := 17) (mx_da t_L_clerk 8 rfl) rfl ?_
    refine mx_iconst (v := 0) (mx_da t_L_clerk 12 rfl) rfl rfl ?_
    exact mx_iret rfl (mx_da t_L_clerk 13 rfl) h
  · have e1 := T1.1.trans T.1.symm
    refine ⟨e1, 13, 15, 4, ⟨⟨⟨0, 10, 13, 18⟩, [], "java/util/NoSuchElementException", rfl, by decide, by decide, cl_RL_18, ca_NSE, Or.inl rfl⟩, by decide, Or.inr ⟨(mx_da t_L_clerk 9 rfl), rfl⟩⟩, ?_⟩
    have T := T1
    show mx_W m_L_clerk (d + 1) 15 [.ref 1, .int v1, .int v2, .ref 98, .retAddr 0] [] M1 Q
    refine mx_iconst (v := 1) (mx_da t_L_clerk 10 rfl) rfl rfl ?_
    exact mx_iret rfl (mx_da t_L_clerk 11 rfl) h
def m_L_key : mx_Me := (RL, cL_key, 6, (some .int), tableOf [(0, 12, 15, 18)], "key")
theorem mm_L_key : mx_MtX yL_key m_L_key [(0, 12, 15, 18)] := ⟨rfl, tb_5 _ (List.mem_of_getElem? (i := 10) rfl), rfl, by decide +kernel, ⟨by decide, by decide⟩, by decide, tb_1 _ (List.mem_of_getElem? (i := 0) rfl), rfl⟩
theorem st_L_key : Cond.static yL_key ∈ lw_tbl := tb_5 _ (List.mem_of_getElem? (i := 9) rfl)
theorem t_L_key : mx_dec cL_key [(0, .aload 4, 2), (2, .iconst 0, 1), (3, .aload_n 0, 1), (4, .iload_n 1, 1), (5, .iload_n 2, 1), (6, .iload_n 3, 1), (7, .invokevirtual 27, 3), (10, .i2l, 1), (11, .lastore, 1), (12, .goto 7, 3), (15, .astore 5, 2), (17, .iconst 1, 1), (18, .ireturn, 1), (19, .iconst 0, 1), (20, .ireturn, 1)] = true := by decide +kernel
set_option maxHeartbeats 1000000 in
theorem x_L_key_0 {d : Nat} {M : mx_M} {Q : mx_O → mx_M → Prop} (T : mx_Tp M) (v1 : Int32) (v2 : Int32) (v3 : Int32)
    (h : (mx_W m_X10_key d 0 [.ref 1, .int v1, .int v2, .int v3, .retAddr 0] [] M (fun o M1 => mx_Tp M1 ∧ ((∃ x2 : Int32, o = .inl (some (.int x2)) ∧ (∀ M3, M3 = mx_setJ M1 98 0 (x2.toInt64) → Q (.inl (some (.int 0))) M3)) ∨ (o = .inr NSE ∧ Q (.inl (some (.int 1))) M1))))) :
    mx_W m_L_key (d + 1) 0 [.ref 1, .int v1, .int v2, .int v3, .ref 98, .retAddr 0] [] M Q := by
  refine mx_aload 4 (mx_da t_L_key 0 rfl) rfl rfl rfl ?_
  refine mx_iconst (v := 0) (mx_da t_L_key 1 rfl) rfl rfl ?_
  refine mx_aload_n 0 (mx_da t_L_key 2 rfl) rfl rfl rfl rfl ?_
  refine mx_iload_n 1 (mx_da t_L_key 3 rfl) rfl rfl rfl ?_
  refine mx_iload_n 2 (mx_da t_L_key 4 rfl) rfl rfl rfl ?_
  refine mx_iload_n 3 (mx_da t_L_key 5 rfl) rfl rfl rfl ?_
  refine mx_callVH yX10_key m_X10_key [.int v1, .int v2, .int v3] mm_X10_key ml_RL_27 im_X10_key se_X10_key (tp_s T 1 rfl) rfl rfl (Nat.le_of_ble_eq_true rfl) (mx_da t_L_key 6 rfl) rfl (Nat.le_of_ble_eq_true rfl) ?_
  refine mx_mono h ?_
  intro o M1 ho
  obtain ⟨T1, ho⟩ := ho
  rcases ho with ⟨x2, rfl, h⟩ | ⟨rfl, h⟩
  · have e1 := T1.1.trans T.1.symm
    refine ⟨e1, ?_⟩
    have T := T1
    show mx_W m_L_key (d + 1) 10 [.ref 1, .int v1, .int v2, .int v3, .ref 98, .retAddr 0] [.int x2, .int 0, .ref 98] M1 Q
    refine mx_i2l (mx_da t_L_key 7 rfl) rfl ?_
    refine mx_last (tp_s T 98 rfl) (mx_vin rfl) (mx_da t_L_key 8 rfl) rfl ?_
    refine mx_gen (mx_setJ M1 98 0 (x2.toInt64)) (fun M3 e9 => ?_)
    have h := h _ e9
    have T : mx_Tp M3 := tp_e e9 T
    refine mx_goto (n := 19) (mx_da t_L_key 9 rfl) rfl ?_
    refine mx_iconst (v := 0) (mx_da t_L_key 13 rfl) rfl rfl ?_
    exact mx_iret rfl (mx_da t_L_key 14 rfl) h
  · have e1 := T1.1.trans T.1.symm
    refine ⟨e1, 15, 17, 5, ⟨⟨⟨0, 12, 15, 18⟩, [], "java/util/NoSuchElementException", rfl, by decide, by decide, cl_RL_18, ca_NSE, Or.inl rfl⟩, by decide, Or.inr ⟨(mx_da t_L_key 10 rfl), rfl⟩⟩, ?_⟩
    have T := T1
    show mx_W m_L_key (d + 1) 17 [.ref 1, .int v1, .int v2, .int v3, .ref 98, .retAddr 0] [] M1 Q
    refine mx_iconst (v := 1) (mx_da t_L_key 11 rfl) rfl rfl ?_
    exact mx_iret rfl (mx_da t_L_key 12 rfl) h
def m_L_before : mx_Me := (RL, cL_before, 6, (some .int), tableOf [(0, 19, 22, 18)], "before")
theorem mm_L_before : mx_MtX yL_before m_L_before [(0, 19, 22, 18)] := ⟨rfl, tb_5 _ (List.mem_of_getElem? (i := 26) rfl), rfl, by decide +kernel, ⟨by decide, by decide⟩, by decide, tb_1 _ (List.mem_of_getElem? (i := 0) rfl), rfl⟩
theorem st_L_before : Cond.static yL_before ∈ lw_tbl := tb_5 _ (List.mem_of_getElem? (i := 25) rfl)
theorem t_L_before : mx_dec cL_before [(0, .aload 4, 2), (2, .iconst 0, 1), (3, .aload_n 0, 1), (4, .iload_n 1, 1), (5, .iload_n 2, 1), (6, .iload_n 3, 1), (7, .invokevirtual 31, 3), (10, .ifCond .eq 7, 3), (13, .lconst 1, 1), (14, .goto 4, 3), (17, .lconst 0, 1), (18, .lastore, 1), (19, .goto 7, 3), (22, .astore 5, 2), (24, .iconst 1, 1), (25, .ireturn, 1), (26, .iconst 0, 1), (27, .ireturn, 1)] = true := by decide +kernel
set_option maxHeartbeats 1000000 in
theorem x_L_before_0 {d : Nat} {M : mx_M} {Q : mx_O → mx_M → Prop} (T : mx_Tp M) (v1 : Int32) (v2 : Int32) (v3 : Int32)
    (h : (mx_W m_X10_before d 0 [.ref 1, .int v1, .int v2, .int v3] [] M (fun o M1 => mx_Tp M1 ∧ ((∃ x2 : Bool, o = .inl (some (.int (mx_b x2))) ∧ ((x2 = false → (∀ M3, M3 = mx_setJ M1 98 0 0 → Q (.inl (some (.int 0))) M3)) ∧ (x2 = true → (∀ M4, M4 = mx_setJ M1 98 0 1 → Q (.inl (some (.int 0))) M4)))) ∨ (o = .inr NSE ∧ Q (.inl (some (.int 1))) M1))))) :
    mx_W m_L_before (d + 1) 0 [.ref 1, .int v1, .int v2, .int v3, .ref 98, .retAddr 0] [] M Q := by
  refine mx_aload 4 (mx_da t_L_before 0 rfl) rfl rfl rfl ?_
  refine mx_iconst (v := 0) (mx_da t_L_before 1 rfl) rfl rfl ?_
  refine mx_aload_n 0 (mx_da t_L_before 2 rfl) rfl rfl rfl rfl ?_
  refine mx_iload_n 1 (mx_da t_L_before 3 rfl) rfl rfl rfl ?_
  refine mx_iload_n 2 (mx_da t_L_before 4 rfl) rfl rfl rfl ?_
  refine mx_iload_n 3 (mx_da t_L_before 5 rfl) rfl rfl rfl ?_
  refine mx_callVH yX10_before m_X10_before [.int v1, .int v2, .int v3] mm_X10_before ml_RL_31 im_X10_before se_X10_before (tp_s T 1 rfl) rfl rfl (Nat.le_of_ble_eq_true rfl) (mx_da t_L_before 6 rfl) rfl (Nat.le_of_ble_eq_true rfl) ?_
  refine mx_mono h ?_
  intro o M1 ho
  obtain ⟨T1, ho⟩ := ho
  rcases ho with ⟨x2, rfl, h⟩ | ⟨rfl, h⟩
  · have e1 := T1.1.trans T.1.symm
    refine ⟨e1, ?_⟩
    have T := T1
    show mx_W m_L_before (d + 1) 10 [.ref 1, .int v1, .int v2, .int v3, .ref 98, .retAddr 0] [.int (mx_b x2), .int 0, .ref 98] M1 Q
    refine mx_if_eq 17 (mx_da t_L_before 7 rfl) rfl rfl (fun g9 => ?_) (fun g9 => ?_)
    · have h := h.1 (mx_b0.mp g9)
      refine mx_lconst (v := 0) (mx_da t_L_before 10 rfl) rfl rfl ?_
      refine mx_last (tp_s T 98 rfl) (mx_vin rfl) (mx_da t_L_before 11 rfl) rfl ?_
      refine mx_gen (mx_setJ M1 98 0 0) (fun M3 e9 => ?_)
      have h := h _ e9
      have T : mx_Tp M3 := tp_e e9 T
      refine mx_goto (n := 26) (mx_da t_L_before 12 rfl) rfl ?_
      refine mx_iconst (v := 0) (mx_da t_L_before 16 rfl) rfl rfl ?_
      exact mx_iret rfl (mx_da t_L_before 17 rfl) h
    · have h := h.2 (mx_bn.mp g9)
      refine mx_lconst (v := 1) (mx_da t_L_before 8 rfl) rfl rfl ?_
      refine mx_goto (n := 18) (mx_da t_L_before 9 rfl) rfl ?_
      refine mx_last (tp_s T 98 rfl) (mx_vin rfl) (mx_da t_L_before 11 rfl) rfl ?_
      refine mx_gen (mx_setJ M1 98 0 1) (fun M4 e9 => ?_)
      have h := h _ e9
      have T : mx_Tp M4 := tp_e e9 T
      refine mx_goto (n := 26) (mx_da t_L_before 12 rfl) rfl ?_
      refine mx_iconst (v := 0) (mx_da t_L_before 16 rfl) rfl rfl ?_
      exact mx_iret rfl (mx_da t_L_before 17 rfl) h
  · have e1 := T1.1.trans T.1.symm
    refine ⟨e1, 22, 24, 5, ⟨⟨⟨0, 19, 22, 18⟩, [], "java/util/NoSuchElementException", rfl, by decide, by decide, cl_RL_18, ca_NSE, Or.inl rfl⟩, by decide, Or.inr ⟨(mx_da t_L_before 13 rfl), rfl⟩⟩, ?_⟩
    have T := T1
    show mx_W m_L_before (d + 1) 24 [.ref 1, .int v1, .int v2, .int v3, .ref 98, .retAddr 0] [] M1 Q
    refine mx_iconst (v := 1) (mx_da t_L_before 14 rfl) rfl rfl ?_
    exact mx_iret rfl (mx_da t_L_before 15 rfl) h
def m_L_rank : mx_Me := (RL, cL_rank, 5, (some .int), tableOf [(0, 10, 13, 18)], "rank")
theorem mm_L_rank : mx_MtX yL_rank m_L_rank [(0, 10, 13, 18)] := ⟨rfl, tb_5 _ (List.mem_of_getElem? (i := 33) rfl), rfl, by decide +kernel, ⟨by decide, by decide⟩, by decide, tb_1 _ (List.mem_of_getElem? (i := 0) rfl), rfl⟩
theorem st_L_rank : Cond.static yL_rank ∈ lw_tbl := tb_5 _ (List.mem_of_getElem? (i := 32) rfl)
theorem t_L_rank : mx_dec cL_rank [(0, .aload_n 3, 1), (1, .iconst 0, 1), (2, .aload_n 0, 1), (3, .iload_n 1, 1), (4, .iload_n 2, 1), (5, .invokevirtual 35, 3), (8, .i2l, 1), (9, .lastore, 1), (10, .goto 7, 3), (13, .astore 4, 2), (15, .iconst 1, 1), (16, .ireturn, 1), (17, .iconst 0, 1), (18, .ireturn, 1)] = true := by decide +kernel
set_option maxHeartbeats 1000000 in
theorem x_L_rank_0 {d : Nat} {M : mx_M} {Q : mx_O → mx_M → Prop} (T : mx_Tp M) (v1 : Int32) (v2 : Int32)
    (h : (mx_W m_X10_rank d 0 [.ref 1, .int v1, .int v2] [] M (fun o M1 => mx_Tp M1 ∧ ((∃ x2 : Int32, o = .inl (some (.int x2)) ∧ (∀ M3, M3 = mx_setJ M1 98 0 (x2.toInt64) → Q (.inl (some (.int 0))) M3)) ∨ (o = .inr NSE ∧ Q (.inl (some (.int 1))) M1))))) :
    mx_W m_L_rank (d + 1) 0 [.ref 1, .int v1, .int v2, .ref 98, .retAddr 0] [] M Q := by
  refine mx_aload_n 3 (mx_da t_L_rank 0 rfl) rfl rfl rfl rfl ?_
  refine mx_iconst (v := 0) (mx_da t_L_rank 1 rfl) rfl rfl ?_
  refine mx_aload_n 0 (mx_da t_L_rank 2 rfl) rfl rfl rfl rfl ?_
  refine mx_iload_n 1 (mx_da t_L_rank 3 rfl) rfl rfl rfl ?_
  refine mx_iload_n 2 (mx_da t_L_rank 4 rfl) rfl rfl rfl ?_
  refine mx_callVH yX10_rank m_X10_rank [.int v1, .int v2] mm_X10_rank ml_RL_35 im_X10_rank se_X10_rank (tp_s T 1 rfl) rfl rfl (Nat.le_of_ble_eq_true rfl) (mx_da t_L_rank 5 rfl) rfl (Nat.le_of_ble_eq_true rfl) ?_
  refine mx_mono h ?_
  intro o M1 ho
  obtain ⟨T1, ho⟩ := ho
  rcases ho with ⟨x2, rfl, h⟩ | ⟨rfl, h⟩
  · have e1 := T1.1.trans T.1.symm
    refine ⟨e1, ?_⟩
    have T := T1
    show mx_W m_L_rank (d + 1) 8 [.ref 1, .int v1, .int v2, .ref 98, .retAddr 0] [.int x2, .int 0, .ref 98] M1 Q
    refine mx_i2l (mx_da t_L_rank 6 rfl) rfl ?_
    refine mx_last (tp_s T 98 rfl) (mx_vin rfl) (mx_da t_L_rank 7 rfl) rfl ?_
    refine mx_gen (mx_setJ M1 98 0 (x2.toInt64)) (fun M3 e9 => ?_)
    have h := h _ e9
    have T : mx_Tp M3 := tp_e e9 T
    refine mx_goto (n := 17) (mx_da t_L_rank 8 rfl) rfl ?_
    refine mx_iconst (v := 0) (mx_da t_L_rank 12 rfl) rfl rfl ?_
    exact mx_iret rfl (mx_da t_L_rank 13 rfl) h
  · have e1 := T1.1.trans T.1.symm
    refine ⟨e1, 13, 15, 4, ⟨⟨⟨0, 10, 13, 18⟩, [], "java/util/NoSuchElementException", rfl, by decide, by decide, cl_RL_18, ca_NSE, Or.inl rfl⟩, by decide, Or.inr ⟨(mx_da t_L_rank 9 rfl), rfl⟩⟩, ?_⟩
    have T := T1
    show mx_W m_L_rank (d + 1) 15 [.ref 1, .int v1, .int v2, .ref 98, .retAddr 0] [] M1 Q
    refine mx_iconst (v := 1) (mx_da t_L_rank 10 rfl) rfl rfl ?_
    exact mx_iret rfl (mx_da t_L_rank 11 rfl) h
def m_L_at : mx_Me := (RL, cL_at, 5, (some .int), tableOf [(0, 10, 13, 18)], "at")
theorem mm_L_at : mx_MtX yL_at m_L_at [(0, 10, 13, 18)] := ⟨rfl, tb_5 _ (List.mem_of_getElem? (i := 40) rfl), rfl, by decide +kernel, ⟨by decide, by decide⟩, by decide, tb_1 _ (List.mem_of_getElem? (i := 0) rfl), rfl⟩
theorem st_L_at : Cond.static yL_at ∈ lw_tbl := tb_5 _ (List.mem_of_getElem? (i := 39) rfl)
theorem t_L_at : mx_dec cL_at [(0, .aload_n 3, 1), (1, .iconst 0, 1), (2, .aload_n 0, 1), (3, .iload_n 1, 1), (4, .iload_n 2, 1), (5, .invokevirtual 38, 3), (8, .i2l, 1), (9, .lastore, 1), (10, .goto 7, 3), (13, .astore 4, 2), (15, .iconst 1, 1), (16, .ireturn, 1), (17, .iconst 0, 1), (18, .ireturn, 1)] = true := by decide +kernel
set_option maxHeartbeats 1000000 in
theorem x_L_at_0 {d : Nat} {M : mx_M} {Q : mx_O → mx_M → Prop} (T : mx_Tp M) (v1 : Int32) (v2 : Int32)
    (h : (mx_W m_X10_at d 0 [.ref 1, .int v1, .int v2] [] M (fun o M1 => mx_Tp M1 ∧ ((∃ x2 : Int32, o = .inl (some (.int x2)) ∧ (∀ M3, M3 = mx_setJ M1 98 0 (x2.toInt64) → Q (.inl (some (.int 0))) M3)) ∨ (o = .inr NSE ∧ Q (.inl (some (.int 1))) M1))))) :
    mx_W m_L_at (d + 1) 0 [.ref 1, .int v1, .int v2, .ref 98, .retAddr 0] [] M Q := by
  refine mx_aload_n 3 (mx_da t_L_at 0 rfl) rfl rfl rfl rfl ?_
  refine mx_iconst (v := 0) (mx_da t_L_at 1 rfl) rfl rfl ?_
  refine mx_aload_n 0 (mx_da t_L_at 2 rfl) rfl rfl rfl rfl ?_
  refine mx_iload_n 1 (mx_da t_L_at 3 rfl) rfl rfl rfl ?_
  refine mx_iload_n 2 (mx_da t_L_at 4 rfl) rfl rfl rfl ?_
  refine mx_callVH yX10_at m_X10_at [.int v1, .int v2] mm_X10_at ml_RL_38 im_X10_at se_X10_at (tp_s T 1 rfl) rfl rfl (Nat.le_of_ble_eq_true rfl) (mx_da t_L_at 5 rfl) rfl (Nat.le_of_ble_eq_true rfl) ?_
  refine mx_mono h ?_
  intro o M1 ho
  obtain ⟨T1, ho⟩ := ho
  rcases ho with ⟨x2, rfl, h⟩ | ⟨rfl, h⟩
  · have e1 := T1.1.trans T.1.symm
    refine ⟨e1, ?_⟩
    have T := T1
    show mx_W m_L_at (d + 1) 8 [.ref 1, .int v1, .int v2, .ref 98, .retAddr 0] [.int x2, .int 0, .ref 98] M1 Q
    refine mx_i2l (mx_da t_L_at 6 rfl) rfl ?_
    refine mx_last (tp_s T 98 rfl) (mx_vin rfl) (mx_da t_L_at 7 rfl) rfl ?_
    refine mx_gen (mx_setJ M1 98 0 (x2.toInt64)) (fun M3 e9 => ?_)
    have h := h _ e9
    have T : mx_Tp M3 := tp_e e9 T
    refine mx_goto (n := 17) (mx_da t_L_at 8 rfl) rfl ?_
    refine mx_iconst (v := 0) (mx_da t_L_at 12 rfl) rfl rfl ?_
    exact mx_iret rfl (mx_da t_L_at 13 rfl) h
  · have e1 := T1.1.trans T.1.symm
    refine ⟨e1, 13, 15, 4, ⟨⟨⟨0, 10, 13, 18⟩, [], "java/util/NoSuchElementException", rfl, by decide, by decide, cl_RL_18, ca_NSE, Or.inl rfl⟩, by decide, Or.inr ⟨(mx_da t_L_at 9 rfl), rfl⟩⟩, ?_⟩
    have T := T1
    show mx_W m_L_at (d + 1) 15 [.ref 1, .int v1, .int v2, .ref 98, .retAddr 0] [] M1 Q
    refine mx_iconst (v := 1) (mx_da t_L_at 10 rfl) rfl rfl ?_
    exact mx_iret rfl (mx_da t_L_at 11 rfl) h
def m_L_drawer : mx_Me := (RL, cL_drawer, 4, (some .int), tableOf [(0, 9, 12, 18)], "drawer")
theorem mm_L_drawer : mx_MtX yL_drawer m_L_drawer [(0, 9, 12, 18)] := ⟨rfl, tb_5 _ (List.mem_of_getElem? (i := 48) rfl), rfl, by decide +kernel, ⟨by decide, by decide⟩, by decide, tb_1 _ (List.mem_of_getElem? (i := 0) rfl), rfl⟩
theorem st_L_drawer : Cond.static yL_drawer ∈ lw_tbl := tb_5 _ (List.mem_of_getElem? (i := 47) rfl)
theorem t_L_drawer : mx_dec cL_drawer [(0, .aload_n 2, 1), (1, .iconst 0, 1), (2, .aload_n 0, 1), (3, .iload_n 1, 1), (4, .invokevirtual 41, 3), (7, .i2l, 1), (8, .lastore, 1), (9, .goto 6, 3), (12, .astore_n 3, 1), (13, .iconst 1, 1), (14, .ireturn, 1), (15, .iconst 0, 1), (16, .ireturn, 1)] = true := by decide +kernel
set_option maxHeartbeats 1000000 in
theorem x_L_drawer_0 {d : Nat} {M : mx_M} {Q : mx_O → mx_M → Prop} (T : mx_Tp M) (v1 : Int32)
    (h : (mx_W m_X10_drawer d 0 [.ref 1, .int v1] [] M (fun o M1 => mx_Tp M1 ∧ ((∃ x2 : Int32, o = .inl (some (.int x2)) ∧ (∀ M3, M3 = mx_setJ M1 98 0 (x2.toInt64) → Q (.inl (some (.int 0))) M3)) ∨ (o = .inr NSE ∧ Q (.inl (some (.int 1))) M1))))) :
    mx_W m_L_drawer (d + 1) 0 [.ref 1, .int v1, .ref 98, .retAddr 0] [] M Q := by
  refine mx_aload_n 2 (mx_da t_L_drawer 0 rfl) rfl rfl rfl rfl ?_
  refine mx_iconst (v := 0) (mx_da t_L_drawer 1 rfl) rfl rfl ?_
  refine mx_aload_n 0 (mx_da t_L_drawer 2 rfl) rfl rfl rfl rfl ?_
  refine mx_iload_n 1 (mx_da t_L_drawer 3 rfl) rfl rfl rfl ?_
  refine mx_callVH yX10_drawer m_X10_drawer [.int v1] mm_X10_drawer ml_RL_41 im_X10_drawer se_X10_drawer (tp_s T 1 rfl) rfl rfl (Nat.le_of_ble_eq_true rfl) (mx_da t_L_drawer 4 rfl) rfl (Nat.le_of_ble_eq_true rfl) ?_
  refine mx_mono h ?_
  intro o M1 ho
  obtain ⟨T1, ho⟩ := ho
  rcases ho with ⟨x2, rfl, h⟩ | ⟨rfl, h⟩
  · have e1 := T1.1.trans T.1.symm
    refine ⟨e1, ?_⟩
    have T := T1
    show mx_W m_L_drawer (d + 1) 7 [.ref 1, .int v1, .ref 98, .retAddr 0] [.int x2, .int 0, .ref 98] M1 Q
    refine mx_i2l (mx_da t_L_drawer 5 rfl) rfl ?_
    refine mx_last (tp_s T 98 rfl) (mx_vin rfl) (mx_da t_L_drawer 6 rfl) rfl ?_
    refine mx_gen (mx_setJ M1 98 0 (x2.toInt64)) (fun M3 e9 => ?_)
    have h := h _ e9
    have T : mx_Tp M3 := tp_e e9 T
    refine mx_goto (n := 15) (mx_da t_L_drawer 7 rfl) rfl ?_
    refine mx_iconst (v := 0) (mx_da t_L_drawer 11 rfl) rfl rfl ?_
    exact mx_iret rfl (mx_da t_L_drawer 12 rfl) h
  · have e1 := T1.1.trans T.1.symm
    refine ⟨e1, 12, 13, 3, ⟨⟨⟨0, 9, 12, 18⟩, [], "java/util/NoSuchElementException", rfl, by decide, by decide, cl_RL_18, ca_NSE, Or.inl rfl⟩, by decide, Or.inl ⟨3, (mx_da t_L_drawer 8 rfl), rfl, rfl⟩⟩, ?_⟩
    have T := T1
    show mx_W m_L_drawer (d + 1) 13 [.ref 1, .int v1, .ref 98, .retAddr 0] [] M1 Q
    refine mx_iconst (v := 1) (mx_da t_L_drawer 9 rfl) rfl rfl ?_
    exact mx_iret rfl (mx_da t_L_drawer 10 rfl) h
def m_L_put : mx_Me := (RL, cL_put, 5, (some .int), tableOf [(0, 10, 13, 18)], "put")
theorem mm_L_put : mx_MtX yL_put m_L_put [(0, 10, 13, 18)] := ⟨rfl, tb_5 _ (List.mem_of_getElem? (i := 56) rfl), rfl, by decide +kernel, ⟨by decide, by decide⟩, by decide, tb_1 _ (List.mem_of_getElem? (i := 0) rfl), rfl⟩
theorem st_L_put : Cond.static yL_put ∈ lw_tbl := tb_5 _ (List.mem_of_getElem? (i := 55) rfl)
theorem t_L_put : mx_dec cL_put [(0, .aload_n 3, 1), (1, .iconst 0, 1), (2, .aload_n 0, 1), (3, .iload_n 1, 1), (4, .iload_n 2, 1), (5, .invokevirtual 44, 3), (8, .i2l, 1), (9, .lastore, 1), (10, .goto 7, 3), (13, .astore 4, 2), (15, .iconst 1, 1), (16, .ireturn, 1), (17, .iconst 0, 1), (18, .ireturn, 1)] = true := by decide +kernel
set_option maxHeartbeats 1000000 in
theorem x_L_put_0 {d : Nat} {M : mx_M} {Q : mx_O → mx_M → Prop} (T : mx_Tp M) (v1 : Int32) (v2 : Int32)
    (h : (mx_W m_X10_put d 0 [.ref 1, .int v1, .int v2, .retAddr 0] [] M (fun o M1 => mx_Tp M1 ∧ ((∃ x2 : Int32, o = .inl (some (.int x2)) ∧ (∀ M3, M3 = mx_setJ M1 98 0 (x2.toInt64) → Q (.inl (some (.int 0))) M3)) ∨ (o = .inr NSE ∧ Q (.inl (some (.int 1))) M1))))) :
    mx_W m_L_put (d + 1) 0 [.ref 1, .int v1, .int v2, .ref 98, .retAddr 0] [] M Q := by
  refine mx_aload_n 3 (mx_da t_L_put 0 rfl) rfl rfl rfl rfl ?_
  refine mx_iconst (v := 0) (mx_da t_L_put 1 rfl) rfl rfl ?_
  refine mx_aload_n 0 (mx_da t_L_put 2 rfl) rfl rfl rfl rfl ?_
  refine mx_iload_n 1 (mx_da t_L_put 3 rfl) rfl rfl rfl ?_
  refine mx_iload_n 2 (mx_da t_L_put 4 rfl) rfl rfl rfl ?_
  refine mx_callVH yX10_put m_X10_put [.int v1, .int v2] mm_X10_put ml_RL_44 im_X10_put se_X10_put (tp_s T 1 rfl) rfl rfl (Nat.le_of_ble_eq_true rfl) (mx_da t_L_put 5 rfl) rfl (Nat.le_of_ble_eq_true rfl) ?_
  refine mx_mono h ?_
  intro o M1 ho
  obtain ⟨T1, ho⟩ := ho
  rcases ho with ⟨x2, rfl, h⟩ | ⟨rfl, h⟩
  · have e1 := T1.1.trans T.1.symm
    refine ⟨e1, ?_⟩
    have T := T1
    show mx_W m_L_put (d + 1) 8 [.ref 1, .int v1, .int v2, .ref 98, .retAddr 0] [.int x2, .int 0, .ref 98] M1 Q
    refine mx_i2l (mx_da t_L_put 6 rfl) rfl ?_
    refine mx_last (tp_s T 98 rfl) (mx_vin rfl) (mx_da t_L_put 7 rfl) rfl ?_
    refine mx_gen (mx_setJ M1 98 0 (x2.toInt64)) (fun M3 e9 => ?_)
    have h := h _ e9
    have T : mx_Tp M3 := tp_e e9 T
    refine mx_goto (n := 17) (mx_da t_L_put 8 rfl) rfl ?_
    refine mx_iconst (v := 0) (mx_da t_L_put 12 rfl) rfl rfl ?_
    exact mx_iret rfl (mx_da t_L_put 13 rfl) h
  · have e1 := T1.1.trans T.1.symm
    refine ⟨e1, 13, 15, 4, ⟨⟨⟨0, 10, 13, 18⟩, [], "java/util/NoSuchElementException", rfl, by decide, by decide, cl_RL_18, ca_NSE, Or.inl rfl⟩, by decide, Or.inr ⟨(mx_da t_L_put 9 rfl), rfl⟩⟩, ?_⟩
    have T := T1
    show mx_W m_L_put (d + 1) 15 [.ref 1, .int v1, .int v2, .ref 98, .retAddr 0] [] M1 Q
    refine mx_iconst (v := 1) (mx_da t_L_put 10 rfl) rfl rfl ?_
    exact mx_iret rfl (mx_da t_L_put 11 rfl) h
def m_L_take : mx_Me := (RL, cL_take, 4, (some .int), tableOf [(0, 9, 12, 18)], "take")
theorem mm_L_take : mx_MtX yL_take m_L_take [(0, 9, 12, 18)] := ⟨rfl, tb_5 _ (List.mem_of_getElem? (i := 79) rfl), rfl, by decide +kernel, ⟨by decide, by decide⟩, by decide, tb_1 _ (List.mem_of_getElem? (i := 0) rfl), rfl⟩
theorem st_L_take : Cond.static yL_take ∈ lw_tbl := tb_5 _ (List.mem_of_getElem? (i := 78) rfl)
theorem t_L_take : mx_dec cL_take [(0, .aload_n 2, 1), (1, .iconst 0, 1), (2, .aload_n 0, 1), (3, .iload_n 1, 1), (4, .invokevirtual 47, 3), (7, .i2l, 1), (8, .lastore, 1), (9, .goto 6, 3), (12, .astore_n 3, 1), (13, .iconst 1, 1), (14, .ireturn, 1), (15, .iconst 0, 1), (16, .ireturn, 1)] = true := by decide +kernel
set_option maxHeartbeats 1000000 in
theorem x_L_take_0 {d : Nat} {M : mx_M} {Q : mx_O → mx_M → Prop} (T : mx_Tp M) (v1 : Int32)
    (h : (mx_W m_X10_take d 0 [.ref 1, .int v1, .retAddr 0] [] M (fun o M1 => mx_Tp M1 ∧ ((∃ x2 : Int32, o = .inl (some (.int x2)) ∧ (∀ M3, M3 = mx_setJ M1 98 0 (x2.toInt64) → Q (.inl (some (.int 0))) M3)) ∨ (o = .inr NSE ∧ Q (.inl (some (.int 1))) M1))))) :
    mx_W m_L_take (d + 1) 0 [.ref 1, .int v1, .ref 98, .retAddr 0] [] M Q := by
  refine mx_aload_n 2 (mx_da t_L_take 0 rfl) rfl rfl rfl rfl ?_
  refine mx_iconst (v := 0) (mx_da t_L_take 1 rfl) rfl rfl ?_
  refine mx_aload_n 0 (mx_da t_L_take 2 rfl) rfl rfl rfl rfl ?_
  refine mx_iload_n 1 (mx_da t_L_take 3 rfl) rfl rfl rfl ?_
  refine mx_callVH yX10_take m_X10_take [.int v1] mm_X10_take ml_RL_47 im_X10_take se_X10_take (tp_s T 1 rfl) rfl rfl (Nat.le_of_ble_eq_true rfl) (mx_da t_L_take 4 rfl) rfl (Nat.le_of_ble_eq_true rfl) ?_
  refine mx_mono h ?_
  intro o M1 ho
  obtain ⟨T1, ho⟩ := ho
  rcases ho with ⟨x2, rfl, h⟩ | ⟨rfl, h⟩
  · have e1 := T1.1.trans T.1.symm
    refine ⟨e1, ?_⟩
    have T := T1
    show mx_W m_L_take (d + 1) 7 [.ref 1, .int v1, .ref 98, .retAddr 0] [.int x2, .int 0, .ref 98] M1 Q
    refine mx_i2l (mx_da t_L_take 5 rfl) rfl ?_
    refine mx_last (tp_s T 98 rfl) (mx_vin rfl) (mx_da t_L_take 6 rfl) rfl ?_
    refine mx_gen (mx_setJ M1 98 0 (x2.toInt64)) (fun M3 e9 => ?_)
    have h := h _ e9
    have T : mx_Tp M3 := tp_e e9 T
    refine mx_goto (n := 15) (mx_da t_L_take 7 rfl) rfl ?_
    refine mx_iconst (v := 0) (mx_da t_L_take 11 rfl) rfl rfl ?_
    exact mx_iret rfl (mx_da t_L_take 12 rfl) h
  · have e1 := T1.1.trans T.1.symm
    refine ⟨e1, 12, 13, 3, ⟨⟨⟨0, 9, 12, 18⟩, [], "java/util/NoSuchElementException", rfl, by decide, by decide, cl_RL_18, ca_NSE, Or.inl rfl⟩, by decide, Or.inl ⟨3, (mx_da t_L_take 8 rfl), rfl, rfl⟩⟩, ?_⟩
    have T := T1
    show mx_W m_L_take (d + 1) 13 [.ref 1, .int v1, .ref 98, .retAddr 0] [] M1 Q
    refine mx_iconst (v := 1) (mx_da t_L_take 9 rfl) rfl rfl ?_
    exact mx_iret rfl (mx_da t_L_take 10 rfl) h
def m_L_move : mx_Me := (RL, cL_move, 5, (some .int), tableOf [(0, 10, 13, 18)], "move")
theorem mm_L_move : mx_MtX yL_move m_L_move [(0, 10, 13, 18)] := ⟨rfl, tb_5 _ (List.mem_of_getElem? (i := 90) rfl), rfl, by decide +kernel, ⟨by decide, by decide⟩, by decide, tb_1 _ (List.mem_of_getElem? (i := 0) rfl), rfl⟩
theorem st_L_move : Cond.static yL_move ∈ lw_tbl := tb_5 _ (List.mem_of_getElem? (i := 89) rfl)
theorem t_L_move : mx_dec cL_move [(0, .aload_n 3, 1), (1, .iconst 0, 1), (2, .aload_n 0, 1), (3, .iload_n 1, 1), (4, .iload_n 2, 1), (5, .invokevirtual 50, 3), (8, .i2l, 1), (9, .lastore, 1), (10, .goto 7, 3), (13, .astore 4, 2), (15, .iconst 1, 1), (16, .ireturn, 1), (17, .iconst 0, 1), (18, .ireturn, 1)] = true := by decide +kernel
set_option maxHeartbeats 1000000 in
theorem x_L_move_0 {d : Nat} {M : mx_M} {Q : mx_O → mx_M → Prop} (T : mx_Tp M) (v1 : Int32) (v2 : Int32)
    (h : (mx_W m_X10_move d 0 [.ref 1, .int v1, .int v2, .retAddr 0] [] M (fun o M1 => mx_Tp M1 ∧ ((∃ x2 : Int32, o = .inl (some (.int x2)) ∧ (∀ M3, M3 = mx_setJ M1 98 0 (x2.toInt64) → Q (.inl (some (.int 0))) M3)) ∨ (o = .inr NSE ∧ Q (.inl (some (.int 1))) M1))))) :
    mx_W m_L_move (d + 1) 0 [.ref 1, .int v1, .int v2, .ref 98, .retAddr 0] [] M Q := by
  refine mx_aload_n 3 (mx_da t_L_move 0 rfl) rfl rfl rfl rfl ?_
  refine mx_iconst (v := 0) (mx_da t_L_move 1 rfl) rfl rfl ?_
  refine mx_aload_n 0 (mx_da t_L_move 2 rfl) rfl rfl rfl rfl ?_
  refine mx_iload_n 1 (mx_da t_L_move 3 rfl) rfl rfl rfl ?_
  refine mx_iload_n 2 (mx_da t_L_move 4 rfl) rfl rfl rfl ?_
  refine mx_callVH yX10_move m_X10_move [.int v1, .int v2] mm_X10_move ml_RL_50 im_X10_move se_X10_move (tp_s T 1 rfl) rfl rfl (Nat.le_of_ble_eq_true rfl) (mx_da t_L_move 5 rfl) rfl (Nat.le_of_ble_eq_true rfl) ?_
  refine mx_mono h ?_
  intro o M1 ho
  obtain ⟨T1, ho⟩ := ho
  rcases ho with ⟨x2, rfl, h⟩ | ⟨rfl, h⟩
  · have e1 := T1.1.trans T.1.symm
    refine ⟨e1, ?_⟩
    have T := T1
    show mx_W m_L_move (d + 1) 8 [.ref 1, .int v1, .int v2, .ref 98, .retAddr 0] [.int x2, .int 0, .ref 98] M1 Q
    refine mx_i2l (mx_da t_L_move 6 rfl) rfl ?_
    refine mx_last (tp_s T 98 rfl) (mx_vin rfl) (mx_da t_L_move 7 rfl) rfl ?_
    refine mx_gen (mx_setJ M1 98 0 (x2.toInt64)) (fun M3 e9 => ?_)
    have h := h _ e9
    have T : mx_Tp M3 := tp_e e9 T
    refine mx_goto (n := 17) (mx_da t_L_move 8 rfl) rfl ?_
    refine mx_iconst (v := 0) (mx_da t_L_move 12 rfl) rfl rfl ?_
    exact mx_iret rfl (mx_da t_L_move 13 rfl) h
  · have e1 := T1.1.trans T.1.symm
    refine ⟨e1, 13, 15, 4, ⟨⟨⟨0, 10, 13, 18⟩, [], "java/util/NoSuchElementException", rfl, by decide, by decide, cl_RL_18, ca_NSE, Or.inl rfl⟩, by decide, Or.inr ⟨(mx_da t_L_move 9 rfl), rfl⟩⟩, ?_⟩
    have T := T1
    show mx_W m_L_move (d + 1) 15 [.ref 1, .int v1, .int v2, .ref 98, .retAddr 0] [] M1 Q
    refine mx_iconst (v := 1) (mx_da t_L_move 10 rfl) rfl rfl ?_
    exact mx_iret rfl (mx_da t_L_move 11 rfl) h
def m_L_file : mx_Me := (RL, cL_file, 4, (some .int), tableOf [(0, 9, 12, 18)], "file")
theorem mm_L_file : mx_MtX yL_file m_L_file [(0, 9, 12, 18)] := ⟨rfl, tb_5 _ (List.mem_of_getElem? (i := 97) rfl), rfl, by decide +kernel, ⟨by decide, by decide⟩, by decide, tb_1 _ (List.mem_of_getElem? (i := 0) rfl), rfl⟩
theorem st_L_file : Cond.static yL_file ∈ lw_tbl := tb_5 _ (List.mem_of_getElem? (i := 96) rfl)
theorem t_L_file : mx_dec cL_file [(0, .aload_n 2, 1), (1, .iconst 0, 1), (2, .aload_n 0, 1), (3, .iload_n 1, 1), (4, .invokevirtual 53, 3), (7, .i2l, 1), (8, .lastore, 1), (9, .goto 6, 3), (12, .astore_n 3, 1), (13, .iconst 1, 1), (14, .ireturn, 1), (15, .iconst 0, 1), (16, .ireturn, 1)] = true := by decide +kernel
set_option maxHeartbeats 1000000 in
theorem x_L_file_0 {d : Nat} {M : mx_M} {Q : mx_O → mx_M → Prop} (T : mx_Tp M) (v1 : Int32)
    (h : (mx_W m_X10_file d 0 [.ref 1, .int v1, .retAddr 0, .retAddr 0] [] M (fun o M1 => mx_Tp M1 ∧ ((∃ x2 : Int32, o = .inl (some (.int x2)) ∧ (∀ M3, M3 = mx_setJ M1 98 0 (x2.toInt64) → Q (.inl (some (.int 0))) M3)) ∨ (o = .inr NSE ∧ Q (.inl (some (.int 1))) M1))))) :
    mx_W m_L_file (d + 1) 0 [.ref 1, .int v1, .ref 98, .retAddr 0] [] M Q := by
  refine mx_aload_n 2 (mx_da t_L_file 0 rfl) rfl rfl rfl rfl ?_
  refine mx_iconst (v := 0) (mx_da t_L_file 1 rfl) rfl rfl ?_
  refine mx_aload_n 0 (mx_da t_L_file 2 rfl) rfl rfl rfl rfl ?_
  refine mx_iload_n 1 (mx_da t_L_file 3 rfl) rfl rfl rfl ?_
  refine mx_callVH yX10_file m_X10_file [.int v1] mm_X10_file ml_RL_53 im_X10_file se_X10_file (tp_s T 1 rfl) rfl rfl (Nat.le_of_ble_eq_true rfl) (mx_da t_L_file 4 rfl) rfl (Nat.le_of_ble_eq_true rfl) ?_
  refine mx_mono h ?_
  intro o M1 ho
  obtain ⟨T1, ho⟩ := ho
  rcases ho with ⟨x2, rfl, h⟩ | ⟨rfl, h⟩
  · have e1 := T1.1.trans T.1.symm
    refine ⟨e1, ?_⟩
    have T := T1
    show mx_W m_L_file (d + 1) 7 [.ref 1, .int v1, .ref 98, .retAddr 0] [.int x2, .int 0, .ref 98] M1 Q
    refine mx_i2l (mx_da t_L_file 5 rfl) rfl ?_
    refine mx_last (tp_s T 98 rfl) (mx_vin rfl) (mx_da t_L_file 6 rfl) rfl ?_
    refine mx_gen (mx_setJ M1 98 0 (x2.toInt64)) (fun M3 e9 => ?_)
    have h := h _ e9
    have T : mx_Tp M3 := tp_e e9 T
    refine mx_goto (n := 15) (mx_da t_L_file 7 rfl) rfl ?_
    refine mx_iconst (v := 0) (mx_da t_L_file 11 rfl) rfl rfl ?_
    exact mx_iret rfl (mx_da t_L_file 12 rfl) h
  · have e1 := T1.1.trans T.1.symm
    refine ⟨e1, 12, 13, 3, ⟨⟨⟨0, 9, 12, 18⟩, [], "java/util/NoSuchElementException", rfl, by decide, by decide, cl_RL_18, ca_NSE, Or.inl rfl⟩, by decide, Or.inl ⟨3, (mx_da t_L_file 8 rfl), rfl, rfl⟩⟩, ?_⟩
    have T := T1
    show mx_W m_L_file (d + 1) 13 [.ref 1, .int v1, .ref 98, .retAddr 0] [] M1 Q
    refine mx_iconst (v := 1) (mx_da t_L_file 9 rfl) rfl rfl ?_
    exact mx_iret rfl (mx_da t_L_file 10 rfl) h
def m_L_differ : mx_Me := (RL, cL_differ, 6, (some .int), tableOf [(0, 12, 15, 18)], "differ")
theorem mm_L_differ : mx_MtX yL_differ m_L_differ [(0, 12, 15, 18)] := ⟨rfl, tb_5 _ (List.mem_of_getElem? (i := 113) rfl), rfl, by decide +kernel, ⟨by decide, by decide⟩, by decide, tb_1 _ (List.mem_of_getElem? (i := 0) rfl), rfl⟩
theorem st_L_differ : Cond.static yL_differ ∈ lw_tbl := tb_5 _ (List.mem_of_getElem? (i := 112) rfl)
theorem t_L_differ : mx_dec cL_differ [(0, .aload 4, 2), (2, .iconst 0, 1), (3, .aload_n 0, 1), (4, .iload_n 1, 1), (5, .iload_n 2, 1), (6, .iload_n 3, 1), (7, .invokevirtual 56, 3), (10, .i2l, 1), (11, .lastore, 1), (12, .goto 7, 3), (15, .astore 5, 2), (17, .iconst 1, 1), (18, .ireturn, 1), (19, .iconst 0, 1), (20, .ireturn, 1)] = true := by decide +kernel
set_option maxHeartbeats 1000000 in
theorem x_L_differ_0 {d : Nat} {M : mx_M} {Q : mx_O → mx_M → Prop} (T : mx_Tp M) (v1 : Int32) (v2 : Int32) (v3 : Int32)
    (h : (mx_W m_X10_differ d 0 [.ref 1, .int v1, .int v2, .int v3] [] M (fun o M1 => mx_Tp M1 ∧ ((∃ x2 : Int32, o = .inl (some (.int x2)) ∧ (∀ M3, M3 = mx_setJ M1 98 0 (x2.toInt64) → Q (.inl (some (.int 0))) M3)) ∨ (o = .inr NSE ∧ Q (.inl (some (.int 1))) M1))))) :
    mx_W m_L_differ (d + 1) 0 [.ref 1, .int v1, .int v2, .int v3, .ref 98, .retAddr 0] [] M Q := by
  refine mx_aload 4 (mx_da t_L_differ 0 rfl) rfl rfl rfl ?_
  refine mx_iconst (v := 0) (mx_da t_L_differ 1 rfl) rfl rfl ?_
  refine mx_aload_n 0 (mx_da t_L_differ 2 rfl) rfl rfl rfl rfl ?_
  refine mx_iload_n 1 (mx_da t_L_differ 3 rfl) rfl rfl rfl ?_
  refine mx_iload_n 2 (mx_da t_L_differ 4 rfl) rfl rfl rfl ?_
  refine mx_iload_n 3 (mx_da t_L_differ 5 rfl) rfl rfl rfl ?_
  refine mx_callVH yX10_differ m_X10_differ [.int v1, .int v2, .int v3] mm_X10_differ ml_RL_56 im_X10_differ se_X10_differ (tp_s T 1 rfl) rfl rfl (Nat.le_of_ble_eq_true rfl) (mx_da t_L_differ 6 rfl) rfl (Nat.le_of_ble_eq_true rfl) ?_
  refine mx_mono h ?_
  intro o M1 ho
  obtain ⟨T1, ho⟩ := ho
  rcases ho with ⟨x2, rfl, h⟩ | ⟨rfl, h⟩
  · have e1 := T1.1.trans T.1.symm
    refine ⟨e1, ?_⟩
    have T := T1
    show mx_W m_L_differ (d + 1) 10 [.ref 1, .int v1, .int v2, .int v3, .ref 98, .retAddr 0] [.int x2, .int 0, .ref 98] M1 Q
    refine mx_i2l (mx_da t_L_differ 7 rfl) rfl ?_
    refine mx_last (tp_s T 98 rfl) (mx_vin rfl) (mx_da t_L_differ 8 rfl) rfl ?_
    refine mx_gen (mx_setJ M1 98 0 (x2.toInt64)) (fun M3 e9 => ?_)
    have h := h _ e9
    have T : mx_Tp M3 := tp_e e9 T
    refine mx_goto (n := 19) (mx_da t_L_differ 9 rfl) rfl ?_
    refine mx_iconst (v := 0) (mx_da t_L_differ 13 rfl) rfl rfl ?_
    exact mx_iret rfl (mx_da t_L_differ 14 rfl) h
  · have e1 := T1.1.trans T.1.symm
    refine ⟨e1, 15, 17, 5, ⟨⟨⟨0, 12, 15, 18⟩, [], "java/util/NoSuchElementException", rfl, by decide, by decide, cl_RL_18, ca_NSE, Or.inl rfl⟩, by decide, Or.inr ⟨(mx_da t_L_differ 10 rfl), rfl⟩⟩, ?_⟩
    have T := T1
    show mx_W m_L_differ (d + 1) 17 [.ref 1, .int v1, .int v2, .int v3, .ref 98, .retAddr 0] [] M1 Q
    refine mx_iconst (v := 1) (mx_da t_L_differ 11 rfl) rfl rfl ?_
    exact mx_iret rfl (mx_da t_L_differ 12 rfl) h
def m_L_votes : mx_Me := (RL, cL_votes, 5, (some .int), tableOf [(0, 10, 13, 18)], "votes")
theorem mm_L_votes : mx_MtX yL_votes m_L_votes [(0, 10, 13, 18)] := ⟨rfl, tb_5 _ (List.mem_of_getElem? (i := 136) rfl), rfl, by decide +kernel, ⟨by decide, by decide⟩, by decide, tb_1 _ (List.mem_of_getElem? (i := 0) rfl), rfl⟩
theorem st_L_votes : Cond.static yL_votes ∈ lw_tbl := tb_5 _ (List.mem_of_getElem? (i := 135) rfl)
theorem t_L_votes : mx_dec cL_votes [(0, .aload_n 3, 1), (1, .iconst 0, 1), (2, .aload_n 0, 1), (3, .iload_n 1, 1), (4, .iload_n 2, 1), (5, .invokevirtual 59, 3), (8, .i2l, 1), (9, .lastore, 1), (10, .goto 7, 3), (13, .astore 4, 2), (15, .iconst 1, 1), (16, .ireturn, 1), (17, .iconst 0, 1), (18, .ireturn, 1)] = true := by decide +kernel
set_option maxHeartbeats 1000000 in
theorem x_L_votes_0 {d : Nat} {M : mx_M} {Q : mx_O → mx_M → Prop} (T : mx_Tp M) (v1 : Int32) (v2 : Int32)
    (h : (mx_W m_X10_votes d 0 [.ref 1, .int v1, .int v2] [] M (fun o M1 => mx_Tp M1 ∧ ((∃ x2 : Int32, o = .inl (some (.int x2)) ∧ (∀ M3, M3 = mx_setJ M1 98 0 (x2.toInt64) → Q (.inl (some (.int 0))) M3)) ∨ (o = .inr NSE ∧ Q (.inl (some (.int 1))) M1))))) :
    mx_W m_L_votes (d + 1) 0 [.ref 1, .int v1, .int v2, .ref 98, .retAddr 0] [] M Q := by
  refine mx_aload_n 3 (mx_da t_L_votes 0 rfl) rfl rfl rfl rfl ?_
  refine mx_iconst (v := 0) (mx_da t_L_votes 1 rfl) rfl rfl ?_
  refine mx_aload_n 0 (mx_da t_L_votes 2 rfl) rfl rfl rfl rfl ?_
  refine mx_iload_n 1 (mx_da t_L_votes 3 rfl) rfl rfl rfl ?_
  refine mx_iload_n 2 (mx_da t_L_votes 4 rfl) rfl rfl rfl ?_
  refine mx_callVH yX10_votes m_X10_votes [.int v1, .int v2] mm_X10_votes ml_RL_59 im_X10_votes se_X10_votes (tp_s T 1 rfl) rfl rfl (Nat.le_of_ble_eq_true rfl) (mx_da t_L_votes 5 rfl) rfl (Nat.le_of_ble_eq_true rfl) ?_
  refine mx_mono h ?_
  intro o M1 ho
  obtain ⟨T1, ho⟩ := ho
  rcases ho with ⟨x2, rfl, h⟩ | ⟨rfl, h⟩
  · have e1 := T1.1.trans T.1.symm
    refine ⟨e1, ?_⟩
    have T := T1
    show mx_W m_L_votes (d + 1) 8 [.ref 1, .int v1, .int v2, .ref 98, .retAddr 0] [.int x2, .int 0, .ref 98] M1 Q
    refine mx_i2l (mx_da t_L_votes 6 rfl) rfl ?_
    refine mx_last (tp_s T 98 rfl) (mx_vin rfl) (mx_da t_L_votes 7 rfl) rfl ?_
    refine mx_gen (mx_setJ M1 98 0 (x2.toInt64)) (fun M3 e9 => ?_)
    have h := h _ e9
    have T : mx_Tp M3 := tp_e e9 T
    refine mx_goto (n := 17) (mx_da t_L_votes 8 rfl) rfl ?_
    refine mx_iconst (v := 0) (mx_da t_L_votes 12 rfl) rfl rfl ?_
    exact mx_iret rfl (mx_da t_L_votes 13 rfl) h
  · have e1 := T1.1.trans T.1.symm
    refine ⟨e1, 13, 15, 4, ⟨⟨⟨0, 10, 13, 18⟩, [], "java/util/NoSuchElementException", rfl, by decide, by decide, cl_RL_18, ca_NSE, Or.inl rfl⟩, by decide, Or.inr ⟨(mx_da t_L_votes 9 rfl), rfl⟩⟩, ?_⟩
    have T := T1
    show mx_W m_L_votes (d + 1) 15 [.ref 1, .int v1, .int v2, .ref 98, .retAddr 0] [] M1 Q
    refine mx_iconst (v := 1) (mx_da t_L_votes 10 rfl) rfl rfl ?_
    exact mx_iret rfl (mx_da t_L_votes 11 rfl) h
def m_L_stay : mx_Me := (RL, cL_stay, 4, (some .int), tableOf [(0, 9, 12, 18)], "stay")
theorem mm_L_stay : mx_MtX yL_stay m_L_stay [(0, 9, 12, 18)] := ⟨rfl, tb_5 _ (List.mem_of_getElem? (i := 143) rfl), rfl, by decide +kernel, ⟨by decide, by decide⟩, by decide, tb_1 _ (List.mem_of_getElem? (i := 0) rfl), rfl⟩
theorem st_L_stay : Cond.static yL_stay ∈ lw_tbl := tb_5 _ (List.mem_of_getElem? (i := 142) rfl)
theorem t_L_stay : mx_dec cL_stay [(0, .aload_n 2, 1), (1, .iconst 0, 1), (2, .aload_n 0, 1), (3, .iload_n 1, 1), (4, .invokevirtual 62, 3), (7, .i2l, 1), (8, .lastore, 1), (9, .goto 6, 3), (12, .astore_n 3, 1), (13, .iconst 1, 1), (14, .ireturn, 1), (15, .iconst 0, 1), (16, .ireturn, 1)] = true := by decide +kernel
set_option maxHeartbeats 1000000 in
theorem x_L_stay_0 {d : Nat} {M : mx_M} {Q : mx_O → mx_M → Prop} (T : mx_Tp M) (v1 : Int32)
    (h : (mx_W m_X10_stay d 0 [.ref 1, .int v1, .retAddr 0, .retAddr 0, .retAddr 0, .retAddr 0] [] M (fun o M1 => mx_Tp M1 ∧ ((∃ x2 : Int32, o = .inl (some (.int x2)) ∧ (∀ M3, M3 = mx_setJ M1 98 0 (x2.toInt64) → Q (.inl (some (.int 0))) M3)) ∨ (o = .inr NSE ∧ Q (.inl (some (.int 1))) M1))))) :
    mx_W m_L_stay (d + 1) 0 [.ref 1, .int v1, .ref 98, .retAddr 0] [] M Q := by
  refine mx_aload_n 2 (mx_da t_L_stay 0 rfl) rfl rfl rfl rfl ?_
  refine mx_iconst (v := 0) (mx_da t_L_stay 1 rfl) rfl rfl ?_
  refine mx_aload_n 0 (mx_da t_L_stay 2 rfl) rfl rfl rfl rfl ?_
  refine mx_iload_n 1 (mx_da t_L_stay 3 rfl) rfl rfl rfl ?_
  refine mx_callVH yX10_stay m_X10_stay [.int v1] mm_X10_stay ml_RL_62 im_X10_stay se_X10_stay (tp_s T 1 rfl) rfl rfl (Nat.le_of_ble_eq_true rfl) (mx_da t_L_stay 4 rfl) rfl (Nat.le_of_ble_eq_true rfl) ?_
  refine mx_mono h ?_
  intro o M1 ho
  obtain ⟨T1, ho⟩ := ho
  rcases ho with ⟨x2, rfl, h⟩ | ⟨rfl, h⟩
  · have e1 := T1.1.trans T.1.symm
    refine ⟨e1, ?_⟩
    have T := T1
    show mx_W m_L_stay (d + 1) 7 [.ref 1, .int v1, .ref 98, .retAddr 0] [.int x2, .int 0, .ref 98] M1 Q
    refine mx_i2l (mx_da t_L_stay 5 rfl) rfl ?_
    refine mx_last (tp_s T 98 rfl) (mx_vin rfl) (mx_da t_L_stay 6 rfl) rfl ?_
    refine mx_gen (mx_setJ M1 98 0 (x2.toInt64)) (fun M3 e9 => ?_)
    have h := h _ e9
    have T : mx_Tp M3 := tp_e e9 T
    refine mx_goto (n := 15) (mx_da t_L_stay 7 rfl) rfl ?_
    refine mx_iconst (v := 0) (mx_da t_L_stay 11 rfl) rfl rfl ?_
    exact mx_iret rfl (mx_da t_L_stay 12 rfl) h
  · have e1 := T1.1.trans T.1.symm
    refine ⟨e1, 12, 13, 3, ⟨⟨⟨0, 9, 12, 18⟩, [], "java/util/NoSuchElementException", rfl, by decide, by decide, cl_RL_18, ca_NSE, Or.inl rfl⟩, by decide, Or.inl ⟨3, (mx_da t_L_stay 8 rfl), rfl, rfl⟩⟩, ?_⟩
    have T := T1
    show mx_W m_L_stay (d + 1) 13 [.ref 1, .int v1, .ref 98, .retAddr 0] [] M1 Q
    refine mx_iconst (v := 1) (mx_da t_L_stay 9 rfl) rfl rfl ?_
    exact mx_iret rfl (mx_da t_L_stay 10 rfl) h
def m_L_stays : mx_Me := (RL, cL_stays, 4, (some .int), tableOf [(0, 9, 12, 18)], "stays")
theorem mm_L_stays : mx_MtX yL_stays m_L_stays [(0, 9, 12, 18)] := ⟨rfl, tb_5 _ (List.mem_of_getElem? (i := 150) rfl), rfl, by decide +kernel, ⟨by decide, by decide⟩, by decide, tb_1 _ (List.mem_of_getElem? (i := 0) rfl), rfl⟩
theorem st_L_stays : Cond.static yL_stays ∈ lw_tbl := tb_5 _ (List.mem_of_getElem? (i := 149) rfl)
theorem t_L_stays : mx_dec cL_stays [(0, .aload_n 2, 1), (1, .iconst 0, 1), (2, .aload_n 0, 1), (3, .iload_n 1, 1), (4, .invokevirtual 65, 3), (7, .i2l, 1), (8, .lastore, 1), (9, .goto 6, 3), (12, .astore_n 3, 1), (13, .iconst 1, 1), (14, .ireturn, 1), (15, .iconst 0, 1), (16, .ireturn, 1)] = true := by decide +kernel
set_option maxHeartbeats 1000000 in
theorem x_L_stays_0 {d : Nat} {M : mx_M} {Q : mx_O → mx_M → Prop} (T : mx_Tp M) (v1 : Int32)
    (h : (mx_W m_X10_stays d 0 [.ref 1, .int v1] [] M (fun o M1 => mx_Tp M1 ∧ ((∃ x2 : Int32, o = .inl (some (.int x2)) ∧ (∀ M3, M3 = mx_setJ M1 98 0 (x2.toInt64) → Q (.inl (some (.int 0))) M3)) ∨ (o = .inr NSE ∧ Q (.inl (some (.int 1))) M1))))) :
    mx_W m_L_stays (d + 1) 0 [.ref 1, .int v1, .ref 98, .retAddr 0] [] M Q := by
  refine mx_aload_n 2 (mx_da t_L_stays 0 rfl) rfl rfl rfl rfl ?_
  refine mx_iconst (v := 0) (mx_da t_L_stays 1 rfl) rfl rfl ?_
  refine mx_aload_n 0 (mx_da t_L_stays 2 rfl) rfl rfl rfl rfl ?_
  refine mx_iload_n 1 (mx_da t_L_stays 3 rfl) rfl rfl rfl ?_
  refine mx_callVH yX10_stays m_X10_stays [.int v1] mm_X10_stays ml_RL_65 im_X10_stays se_X10_stays (tp_s T 1 rfl) rfl rfl (Nat.le_of_ble_eq_true rfl) (mx_da t_L_stays 4 rfl) rfl (Nat.le_of_ble_eq_true rfl) ?_
  refine mx_mono h ?_
  intro o M1 ho
  obtain ⟨T1, ho⟩ := ho
  rcases ho with ⟨x2, rfl, h⟩ | ⟨rfl, h⟩
  · have e1 := T1.1.trans T.1.symm
    refine ⟨e1, ?_⟩
    have T := T1
    show mx_W m_L_stays (d + 1) 7 [.ref 1, .int v1, .ref 98, .retAddr 0] [.int x2, .int 0, .ref 98] M1 Q
    refine mx_i2l (mx_da t_L_stays 5 rfl) rfl ?_
    refine mx_last (tp_s T 98 rfl) (mx_vin rfl) (mx_da t_L_stays 6 rfl) rfl ?_
    refine mx_gen (mx_setJ M1 98 0 (x2.toInt64)) (fun M3 e9 => ?_)
    have h := h _ e9
    have T : mx_Tp M3 := tp_e e9 T
    refine mx_goto (n := 15) (mx_da t_L_stays 7 rfl) rfl ?_
    refine mx_iconst (v := 0) (mx_da t_L_stays 11 rfl) rfl rfl ?_
    exact mx_iret rfl (mx_da t_L_stays 12 rfl) h
  · have e1 := T1.1.trans T.1.symm
    refine ⟨e1, 12, 13, 3, ⟨⟨⟨0, 9, 12, 18⟩, [], "java/util/NoSuchElementException", rfl, by decide, by decide, cl_RL_18, ca_NSE, Or.inl rfl⟩, by decide, Or.inl ⟨3, (mx_da t_L_stays 8 rfl), rfl, rfl⟩⟩, ?_⟩
    have T := T1
    show mx_W m_L_stays (d + 1) 13 [.ref 1, .int v1, .ref 98, .retAddr 0] [] M1 Q
    refine mx_iconst (v := 1) (mx_da t_L_stays 9 rfl) rfl rfl ?_
    exact mx_iret rfl (mx_da t_L_stays 10 rfl) h
def m_L_search : mx_Me := (RL, cL_search, 6, (some .int), tableOf [(0, 12, 15, 18)], "search")
theorem mm_L_search : mx_MtX yL_search m_L_search [(0, 12, 15, 18)] := ⟨rfl, tb_5 _ (List.mem_of_getElem? (i := 158) rfl), rfl, by decide +kernel, ⟨by decide, by decide⟩, by decide, tb_1 _ (List.mem_of_getElem? (i := 0) rfl), rfl⟩
theorem st_L_search : Cond.static yL_search ∈ lw_tbl := tb_5 _ (List.mem_of_getElem? (i := 157) rfl)
theorem t_L_search : mx_dec cL_search [(0, .aload 4, 2), (2, .iconst 0, 1), (3, .aload_n 0, 1), (4, .iload_n 1, 1), (5, .iload_n 2, 1), (6, .iload_n 3, 1), (7, .invokevirtual 68, 3), (10, .i2l, 1), (11, .lastore, 1), (12, .goto 7, 3), (15, .astore 5, 2), (17, .iconst 1, 1), (18, .ireturn, 1), (19, .iconst 0, 1), (20, .ireturn, 1)] = true := by decide +kernel
set_option maxHeartbeats 1000000 in
theorem x_L_search_0 {d : Nat} {M : mx_M} {Q : mx_O → mx_M → Prop} (T : mx_Tp M) (v1 : Int32) (v2 : Int32) (v3 : Int32)
    (h : (mx_W m_X10_search d 0 [.ref 1, .int v1, .int v2, .int v3] [] M (fun o M1 => mx_Tp M1 ∧ ((∃ x2 : Int32, o = .inl (some (.int x2)) ∧ (∀ M3, M3 = mx_setJ M1 98 0 (x2.toInt64) → Q (.inl (some (.int 0))) M3)) ∨ (o = .inr NSE ∧ Q (.inl (some (.int 1))) M1))))) :
    mx_W m_L_search (d + 1) 0 [.ref 1, .int v1, .int v2, .int v3, .ref 98, .retAddr 0] [] M Q := by
  refine mx_aload 4 (mx_da t_L_search 0 rfl) rfl rfl rfl ?_
  refine mx_iconst (v := 0) (mx_da t_L_search 1 rfl) rfl rfl ?_
  refine mx_aload_n 0 (mx_da t_L_search 2 rfl) rfl rfl rfl rfl ?_
  refine mx_iload_n 1 (mx_da t_L_search 3 rfl) rfl rfl rfl ?_
  refine mx_iload_n 2 (mx_da t_L_search 4 rfl) rfl rfl rfl ?_
  refine mx_iload_n 3 (mx_da t_L_search 5 rfl) rfl rfl rfl ?_
  refine mx_callVH yX10_search m_X10_search [.int v1, .int v2, .int v3] mm_X10_search ml_RL_68 im_X10_search se_X10_search (tp_s T 1 rfl) rfl rfl (Nat.le_of_ble_eq_true rfl) (mx_da t_L_search 6 rfl) rfl (Nat.le_of_ble_eq_true rfl) ?_
  refine mx_mono h ?_
  intro o M1 ho
  obtain ⟨T1, ho⟩ := ho
  rcases ho with ⟨x2, rfl, h⟩ | ⟨rfl, h⟩
  · have e1 := T1.1.trans T.1.symm
    refine ⟨e1, ?_⟩
    have T := T1
    show mx_W m_L_search (d + 1) 10 [.ref 1, .int v1, .int v2, .int v3, .ref 98, .retAddr 0] [.int x2, .int 0, .ref 98] M1 Q
    refine mx_i2l (mx_da t_L_search 7 rfl) rfl ?_
    refine mx_last (tp_s T 98 rfl) (mx_vin rfl) (mx_da t_L_search 8 rfl) rfl ?_
    refine mx_gen (mx_setJ M1 98 0 (x2.toInt64)) (fun M3 e9 => ?_)
    have h := h _ e9
    have T : mx_Tp M3 := tp_e e9 T
    refine mx_goto (n := 19) (mx_da t_L_search 9 rfl) rfl ?_
    refine mx_iconst (v := 0) (mx_da t_L_search 13 rfl) rfl rfl ?_
    exact mx_iret rfl (mx_da t_L_search 14 rfl) h
  · have e1 := T1.1.trans T.1.symm
    refine ⟨e1, 15, 17, 5, ⟨⟨⟨0, 12, 15, 18⟩, [], "java/util/NoSuchElementException", rfl, by decide, by decide, cl_RL_18, ca_NSE, Or.inl rfl⟩, by decide, Or.inr ⟨(mx_da t_L_search 10 rfl), rfl⟩⟩, ?_⟩
    have T := T1
    show mx_W m_L_search (d + 1) 17 [.ref 1, .int v1, .int v2, .int v3, .ref 98, .retAddr 0] [] M1 Q
    refine mx_iconst (v := 1) (mx_da t_L_search 11 rfl) rfl rfl ?_
    exact mx_iret rfl (mx_da t_L_search 12 rfl) h
def m_L_telling : mx_Me := (RL, cL_telling, 4, (some .int), tableOf [(0, 9, 12, 18)], "telling")
theorem mm_L_telling : mx_MtX yL_telling m_L_telling [(0, 9, 12, 18)] := ⟨rfl, tb_5 _ (List.mem_of_getElem? (i := 165) rfl), rfl, by decide +kernel, ⟨by decide, by decide⟩, by decide, tb_1 _ (List.mem_of_getElem? (i := 0) rfl), rfl⟩
theorem st_L_telling : Cond.static yL_telling ∈ lw_tbl := tb_5 _ (List.mem_of_getElem? (i := 164) rfl)
theorem t_L_telling : mx_dec cL_telling [(0, .aload_n 2, 1), (1, .iconst 0, 1), (2, .aload_n 0, 1), (3, .iload_n 1, 1), (4, .invokevirtual 71, 3), (7, .i2l, 1), (8, .lastore, 1), (9, .goto 6, 3), (12, .astore_n 3, 1), (13, .iconst 1, 1), (14, .ireturn, 1), (15, .iconst 0, 1), (16, .ireturn, 1)] = true := by decide +kernel
set_option maxHeartbeats 1000000 in
theorem x_L_telling_0 {d : Nat} {M : mx_M} {Q : mx_O → mx_M → Prop} (T : mx_Tp M) (v1 : Int32)
    (h : (mx_W m_X10_telling d 0 [.ref 1, .int v1, .retAddr 0, .retAddr 0, .retAddr 0, .retAddr 0] [] M (fun o M1 => mx_Tp M1 ∧ ((∃ x2 : Int32, o = .inl (some (.int x2)) ∧ (∀ M3, M3 = mx_setJ M1 98 0 (x2.toInt64) → Q (.inl (some (.int 0))) M3)) ∨ (o = .inr NSE ∧ Q (.inl (some (.int 1))) M1))))) :
    mx_W m_L_telling (d + 1) 0 [.ref 1, .int v1, .ref 98, .retAddr 0] [] M Q := by
  refine mx_aload_n 2 (mx_da t_L_telling 0 rfl) rfl rfl rfl rfl ?_
  refine mx_iconst (v := 0) (mx_da t_L_telling 1 rfl) rfl rfl ?_
  refine mx_aload_n 0 (mx_da t_L_telling 2 rfl) rfl rfl rfl rfl ?_
  refine mx_iload_n 1 (mx_da t_L_telling 3 rfl) rfl rfl rfl ?_
  refine mx_callVH yX10_telling m_X10_telling [.int v1] mm_X10_telling ml_RL_71 im_X10_telling se_X10_telling (tp_s T 1 rfl) rfl rfl (Nat.le_of_ble_eq_true rfl) (mx_da t_L_telling 4 rfl) rfl (Nat.le_of_ble_eq_true rfl) ?_
  refine mx_mono h ?_
  intro o M1 ho
  obtain ⟨T1, ho⟩ := ho
  rcases ho with ⟨x2, rfl, h⟩ | ⟨rfl, h⟩
  · have e1 := T1.1.trans T.1.symm
    refine ⟨e1, ?_⟩
    have T := T1
    show mx_W m_L_telling (d + 1) 7 [.ref 1, .int v1, .ref 98, .retAddr 0] [.int x2, .int 0, .ref 98] M1 Q
    refine mx_i2l (mx_da t_L_telling 5 rfl) rfl ?_
    refine mx_last (tp_s T 98 rfl) (mx_vin rfl) (mx_da t_L_telling 6 rfl) rfl ?_
    refine mx_gen (mx_setJ M1 98 0 (x2.toInt64)) (fun M3 e9 => ?_)
    have h := h _ e9
    have T : mx_Tp M3 := tp_e e9 T
    refine mx_goto (n := 15) (mx_da t_L_telling 7 rfl) rfl ?_
    refine mx_iconst (v := 0) (mx_da t_L_telling 11 rfl) rfl rfl ?_
    exact mx_iret rfl (mx_da t_L_telling 12 rfl) h
  · have e1 := T1.1.trans T.1.symm
    refine ⟨e1, 12, 13, 3, ⟨⟨⟨0, 9, 12, 18⟩, [], "java/util/NoSuchElementException", rfl, by decide, by decide, cl_RL_18, ca_NSE, Or.inl rfl⟩, by decide, Or.inl ⟨3, (mx_da t_L_telling 8 rfl), rfl, rfl⟩⟩, ?_⟩
    have T := T1
    show mx_W m_L_telling (d + 1) 13 [.ref 1, .int v1, .ref 98, .retAddr 0] [] M1 Q
    refine mx_iconst (v := 1) (mx_da t_L_telling 9 rfl) rfl rfl ?_
    exact mx_iret rfl (mx_da t_L_telling 10 rfl) h
def m_L_matters : mx_Me := (RL, cL_matters, 5, (some .int), tableOf [(0, 10, 13, 18)], "matters")
theorem mm_L_matters : mx_MtX yL_matters m_L_matters [(0, 10, 13, 18)] := ⟨rfl, tb_5 _ (List.mem_of_getElem? (i := 176) rfl), rfl, by decide +kernel, ⟨by decide, by decide⟩, by decide, tb_1 _ (List.mem_of_getElem? (i := 0) rfl), rfl⟩
theorem st_L_matters : Cond.static yL_matters ∈ lw_tbl := tb_5 _ (List.mem_of_getElem? (i := 175) rfl)
theorem t_L_matters : mx_dec cL_matters [(0, .aload_n 3, 1), (1, .iconst 0, 1), (2, .aload_n 0, 1), (3, .iload_n 1, 1), (4, .iload_n 2, 1), (5, .invokevirtual 74, 3), (8, .i2l, 1), (9, .lastore, 1), (10, .goto 7, 3), (13, .astore 4, 2), (15, .iconst 1, 1), (16, .ireturn, 1), (17, .iconst 0, 1), (18, .ireturn, 1)] = true := by decide +kernel
set_option maxHeartbeats 1000000 in
theorem x_L_matters_0 {d : Nat} {M : mx_M} {Q : mx_O → mx_M → Prop} (T : mx_Tp M) (v1 : Int32) (v2 : Int32)
    (h : (mx_W m_X10_matters d 0 [.ref 1, .int v1, .int v2] [] M (fun o M1 => mx_Tp M1 ∧ ((∃ x2 : Int32, o = .inl (some (.int x2)) ∧ (∀ M3, M3 = mx_setJ M1 98 0 (x2.toInt64) → Q (.inl (some (.int 0))) M3)) ∨ (o = .inr NSE ∧ Q (.inl (some (.int 1))) M1))))) :
    mx_W m_L_matters (d + 1) 0 [.ref 1, .int v1, .int v2, .ref 98, .retAddr 0] [] M Q := by
  refine mx_aload_n 3 (mx_da t_L_matters 0 rfl) rfl rfl rfl rfl ?_
  refine mx_iconst (v := 0) (mx_da t_L_matters 1 rfl) rfl rfl ?_
  refine mx_aload_n 0 (mx_da t_L_matters 2 rfl) rfl rfl rfl rfl ?_
  refine mx_iload_n 1 (mx_da t_L_matters 3 rfl) rfl rfl rfl ?_
  refine mx_iload_n 2 (mx_da t_L_matters 4 rfl) rfl rfl rfl ?_
  refine mx_callVH yX10_matters m_X10_matters [.int v1, .int v2] mm_X10_matters ml_RL_74 im_X10_matters se_X10_matters (tp_s T 1 rfl) rfl rfl (Nat.le_of_ble_eq_true rfl) (mx_da t_L_matters 5 rfl) rfl (Nat.le_of_ble_eq_true rfl) ?_
  refine mx_mono h ?_
  intro o M1 ho
  obtain ⟨T1, ho⟩ := ho
  rcases ho with ⟨x2, rfl, h⟩ | ⟨rfl, h⟩
  · have e1 := T1.1.trans T.1.symm
    refine ⟨e1, ?_⟩
    have T := T1
    show mx_W m_L_matters (d + 1) 8 [.ref 1, .int v1, .int v2, .ref 98, .retAddr 0] [.int x2, .int 0, .ref 98] M1 Q
    refine mx_i2l (mx_da t_L_matters 6 rfl) rfl ?_
    refine mx_last (tp_s T 98 rfl) (mx_vin rfl) (mx_da t_L_matters 7 rfl) rfl ?_
    refine mx_gen (mx_setJ M1 98 0 (x2.toInt64)) (fun M3 e9 => ?_)
    have h := h _ e9
    have T : mx_Tp M3 := tp_e e9 T
    refine mx_goto (n := 17) (mx_da t_L_matters 8 rfl) rfl ?_
    refine mx_iconst (v := 0) (mx_da t_L_matters 12 rfl) rfl rfl ?_
    exact mx_iret rfl (mx_da t_L_matters 13 rfl) h
  · have e1 := T1.1.trans T.1.symm
    refine ⟨e1, 13, 15, 4, ⟨⟨⟨0, 10, 13, 18⟩, [], "java/util/NoSuchElementException", rfl, by decide, by decide, cl_RL_18, ca_NSE, Or.inl rfl⟩, by decide, Or.inr ⟨(mx_da t_L_matters 9 rfl), rfl⟩⟩, ?_⟩
    have T := T1
    show mx_W m_L_matters (d + 1) 15 [.ref 1, .int v1, .int v2, .ref 98, .retAddr 0] [] M1 Q
    refine mx_iconst (v := 1) (mx_da t_L_matters 10 rfl) rfl rfl ?_
    exact mx_iret rfl (mx_da t_L_matters 11 rfl) h
def m_L_reader : mx_Me := (RL, cL_reader, 6, (some .int), tableOf [(0, 12, 15, 18), (0, 12, 19, 13)], "reader")
theorem mm_L_reader : mx_MtX yL_reader m_L_reader [(0, 12, 15, 18), (0, 12, 19, 13)] := ⟨rfl, tb_5 _ (List.mem_of_getElem? (i := 184) rfl), rfl, by decide +kernel, ⟨by decide, by decide⟩, by decide, tb_1 _ (List.mem_of_getElem? (i := 0) rfl), rfl⟩
theorem st_L_reader : Cond.static yL_reader ∈ lw_tbl := tb_5 _ (List.mem_of_getElem? (i := 183) rfl)
theorem t_L_reader : mx_dec cL_reader [(0, .aload 4, 2), (2, .iconst 0, 1), (3, .aload_n 0, 1), (4, .iload_n 1, 1), (5, .iload_n 2, 1), (6, .iload_n 3, 1), (7, .invokevirtual 77, 3), (10, .i2l, 1), (11, .lastore, 1), (12, .goto 11, 3), (15, .astore 5, 2), (17, .iconst 1, 1), (18, .ireturn, 1), (19, .astore 5, 2), (21, .iconst 2, 1), (22, .ireturn, 1), (23, .iconst 0, 1), (24, .ireturn, 1)] = true := by decide +kernel
set_option maxHeartbeats 1000000 in
theorem x_L_reader_0 {d : Nat} {M : mx_M} {Q : mx_O → mx_M → Prop} (T : mx_Tp M) (v1 : Int32) (v2 : Int32) (v3 : Int32)
    (h : (mx_W m_X10_reader d 0 [.ref 1, .int v1, .int v2, .int v3, .retAddr 0, .retAddr 0] [] M (fun o M1 => mx_Tp M1 ∧ ((∃ x2 : Int32, o = .inl (some (.int x2)) ∧ (∀ M3, M3 = mx_setJ M1 98 0 (x2.toInt64) → Q (.inl (some (.int 0))) M3)) ∨ (o = .inr NSE ∧ Q (.inl (some (.int 1))) M1) ∨ (o = .inr IAE ∧ Q (.inl (some (.int 2))) M1))))) :
    mx_W m_L_reader (d + 1) 0 [.ref 1, .int v1, .int v2, .int v3, .ref 98, .retAddr 0] [] M Q := by
  refine mx_aload 4 (mx_da t_L_reader 0 rfl) rfl rfl rfl ?_
  refine mx_iconst (v := 0) (mx_da t_L_reader 1 rfl) rfl rfl ?_
  refine mx_aload_n 0 (mx_da t_L_reader 2 rfl) rfl rfl rfl rfl ?_
  refine mx_iload_n 1 (mx_da t_L_reader 3 rfl) rfl rfl rfl ?_
  refine mx_iload_n 2 (mx_da t_L_reader 4 rfl) rfl rfl rfl ?_
  refine mx_iload_n 3 (mx_da t_L_reader 5 rfl) rfl rfl rfl ?_
  refine mx_callVH yX10_reader m_X10_reader [.int v1, .int v2, .int v3] mm_X10_reader ml_RL_77 im_X10_reader se_X10_reader (tp_s T 1 rfl) rfl rfl (Nat.le_of_ble_eq_true rfl) (mx_da t_L_reader 6 rfl) rfl (Nat.le_of_ble_eq_true rfl) ?_
  refine mx_mono h ?_
  intro o M1 ho
  obtain ⟨T1, ho⟩ := ho
  rcases ho with ⟨x2, rfl, h⟩ | ⟨rfl, h⟩ | ⟨rfl, h⟩
  · have e1 := T1.1.trans T.1.symm
    refine ⟨e1, ?_⟩
    have T := T1
    show mx_W m_L_reader (d + 1) 10 [.ref 1, .int v1, .int v2, .int v3, .ref 98, .retAddr 0] [.int x2, .int 0, .ref 98] M1 Q
    refine mx_i2l (mx_da t_L_reader 7 rfl) rfl ?_
    refine mx_last (tp_s T 98 rfl) (mx_vin rfl) (mx_da t_L_reader 8 rfl) rfl ?_
    refine mx_gen (mx_setJ M1 98 0 (x2.toInt64)) (fun M3 e9 => ?_)
    have h := h _ e9
    have T : mx_Tp M3 := tp_e e9 T
    refine mx_goto (n := 23) (mx_da t_L_reader 9 rfl) rfl ?_
    refine mx_iconst (v := 0) (mx_da t_L_reader 16 rfl) rfl rfl ?_
    exact mx_iret rfl (mx_da t_L_reader 17 rfl) h
  · have e1 := T1.1.trans T.1.symm
    refine ⟨e1, 15, 17, 5, ⟨⟨⟨0, 12, 15, 18⟩, [⟨0, 12, 19, 13⟩], "java/util/NoSuchElementException", rfl, by decide, by decide, cl_RL_18, ca_NSE, Or.inl rfl⟩, by decide, Or.inr ⟨(mx_da t_L_reader 10 rfl), rfl⟩⟩, ?_⟩
    have T := T1
    show mx_W m_L_reader (d + 1) 17 [.ref 1, .int v1, .int v2, .int v3, .ref 98, .retAddr 0] [] M1 Q
    refine mx_iconst (v := 1) (mx_da t_L_reader 11 rfl) rfl rfl ?_
    exact mx_iret rfl (mx_da t_L_reader 12 rfl) h
  · have e1 := T1.1.trans T.1.symm
    refine ⟨e1, 19, 21, 5, ⟨⟨⟨0, 12, 19, 13⟩, [], "java/lang/IllegalArgumentException", rfl, by decide, by decide, cl_RL_13, ca_IAE, Or.inr ⟨⟨0, 12, 15, 18⟩, rfl, by decide, by decide, cl_RL_18, rfl⟩⟩, by decide, Or.inr ⟨(mx_da t_L_reader 13 rfl), rfl⟩⟩, ?_⟩
    have T := T1
    show mx_W m_L_reader (d + 1) 21 [.ref 1, .int v1, .int v2, .int v3, .ref 98, .retAddr 0] [] M1 Q
    refine mx_iconst (v := 2) (mx_da t_L_reader 14 rfl) rfl rfl ?_
    exact mx_iret rfl (mx_da t_L_reader 15 rfl) h
def m_L_game : mx_Me := (RL, cL_game, 7, (some .int), tableOf [(0, 14, 17, 18), (0, 14, 21, 13)], "game")
theorem mm_L_game : mx_MtX yL_game m_L_game [(0, 14, 17, 18), (0, 14, 21, 13)] := ⟨rfl, tb_5 _ (List.mem_of_getElem? (i := 196) rfl), rfl, by decide +kernel, ⟨by decide, by decide⟩, by decide, tb_1 _ (List.mem_of_getElem? (i := 0) rfl), rfl⟩
theorem st_L_game : Cond.static yL_game ∈ lw_tbl := tb_5 _ (List.mem_of_getElem? (i := 195) rfl)
theorem t_L_game : mx_dec cL_game [(0, .aload 5, 2), (2, .iconst 0, 1), (3, .aload_n 0, 1), (4, .iload_n 1, 1), (5, .iload_n 2, 1), (6, .iload_n 3, 1), (7, .iload 4, 2), (9, .invokevirtual 80, 3), (12, .i2l, 1), (13, .lastore, 1), (14, .goto 11, 3), (17, .astore 6, 2), (19, .iconst 1, 1), (20, .ireturn, 1), (21, .astore 6, 2), (23, .iconst 2, 1), (24, .ireturn, 1), (25, .iconst 0, 1), (26, .ireturn, 1)] = true := by decide +kernel
set_option maxHeartbeats 1000000 in
theorem x_L_game_0 {d : Nat} {M : mx_M} {Q : mx_O → mx_M → Prop} (T : mx_Tp M) (v1 : Int32) (v2 : Int32) (v3 : Int32) (v4 : Int32)
    (h : (mx_W m_X10_game d 0 [.ref 1, .int v1, .int v2, .int v3, .int v4, .retAddr 0, .retAddr 0, .retAddr 0, .retAddr 0, .retAddr 0, .retAddr 0] [] M (fun o M1 => mx_Tp M1 ∧ ((∃ x2 : Int32, o = .inl (some (.int x2)) ∧ (∀ M3, M3 = mx_setJ M1 98 0 (x2.toInt64) → Q (.inl (some (.int 0))) M3)) ∨ (o = .inr NSE ∧ Q (.inl (some (.int 1))) M1) ∨ (o = .inr IAE ∧ Q (.inl (some (.int 2))) M1))))) :
    mx_W m_L_game (d + 1) 0 [.ref 1, .int v1, .int v2, .int v3, .int v4, .ref 98, .retAddr 0] [] M Q := by
  refine mx_aload 5 (mx_da t_L_game 0 rfl) rfl rfl rfl ?_
  refine mx_iconst (v := 0) (mx_da t_L_game 1 rfl) rfl rfl ?_
  refine mx_aload_n 0 (mx_da t_L_game 2 rfl) rfl rfl rfl rfl ?_
  refine mx_iload_n 1 (mx_da t_L_game 3 rfl) rfl rfl rfl ?_
  refine mx_iload_n 2 (mx_da t_L_game 4 rfl) rfl rfl rfl ?_
  refine mx_iload_n 3 (mx_da t_L_game 5 rfl) rfl rfl rfl ?_
  refine mx_iload 4 (mx_da t_L_game 6 rfl) rfl rfl ?_
  refine mx_callVH yX10_game m_X10_game [.int v1, .int v2, .int v3, .int v4] mm_X10_game ml_RL_80 im_X10_game se_X10_game (tp_s T 1 rfl) rfl rfl (Nat.le_of_ble_eq_true rfl) (mx_da t_L_game 7 rfl) rfl (Nat.le_of_ble_eq_true rfl) ?_
  refine mx_mono h ?_
  intro o M1 ho
  obtain ⟨T1, ho⟩ := ho
  rcases ho with ⟨x2, rfl, h⟩ | ⟨rfl, h⟩ | ⟨rfl, h⟩
  · have e1 := T1.1.trans T.1.symm
    refine ⟨e1, ?_⟩
    have T := T1
    show mx_W m_L_game (d + 1) 12 [.ref 1, .int v1, .int v2, .int v3, .int v4, .ref 98, .retAddr 0] [.int x2, .int 0, .ref 98] M1 Q
    refine mx_i2l (mx_da t_L_game 8 rfl) rfl ?_
    refine mx_last (tp_s T 98 rfl) (mx_vin rfl) (mx_da t_L_game 9 rfl) rfl ?_
    refine mx_gen (mx_setJ M1 98 0 (x2.toInt64)) (fun M3 e9 => ?_)
    have h := h _ e9
    have T : mx_Tp M3 := tp_e e9 T
    refine mx_goto (n := 25) (mx_da t_L_game 10 rfl) rfl ?_
    refine mx_iconst (v := 0) (mx_da t_L_game 17 rfl) rfl rfl ?_
    exact mx_iret rfl (mx_da t_L_game 18 rfl) h
  · have e1 := T1.1.trans T.1.symm
    refine ⟨e1, 17, 19, 6, ⟨⟨⟨0, 14, 17, 18⟩, [⟨0, 14, 21, 13⟩], "java/util/NoSuchElementException", rfl, by decide, by decide, cl_RL_18, ca_NSE, Or.inl rfl⟩, by decide, Or.inr ⟨(mx_da t_L_game 11 rfl), rfl⟩⟩, ?_⟩
    have T := T1
    show mx_W m_L_game (d + 1) 19 [.ref 1, .int v1, .int v2, .int v3, .int v4, .ref 98, .retAddr 0] [] M1 Q
    refine mx_iconst (v := 1) (mx_da t_L_game 12 rfl) rfl rfl ?_
    exact mx_iret rfl (mx_da t_L_game 13 rfl) h
  · have e1 := T1.1.trans T.1.symm
    refine ⟨e1, 21, 23, 6, ⟨⟨⟨0, 14, 21, 13⟩, [], "java/lang/IllegalArgumentException", rfl, by decide, by decide, cl_RL_13, ca_IAE, Or.inr ⟨⟨0, 14, 17, 18⟩, rfl, by decide, by decide, cl_RL_18, rfl⟩⟩, by decide, Or.inr ⟨(mx_da t_L_game 14 rfl), rfl⟩⟩, ?_⟩
    have T := T1
    show mx_W m_L_game (d + 1) 23 [.ref 1, .int v1, .int v2, .int v3, .int v4, .ref 98, .retAddr 0] [] M1 Q
    refine mx_iconst (v := 2) (mx_da t_L_game 15 rfl) rfl rfl ?_
    exact mx_iret rfl (mx_da t_L_game 16 rfl) h
def m_L_years : mx_Me := (RL, cL_years, 6, (some .int), tableOf [(0, 12, 15, 18), (0, 12, 19, 13)], "years")
theorem mm_L_years : mx_MtX yL_years m_L_years [(0, 12, 15, 18), (0, 12, 19, 13)] := ⟨rfl, tb_5 _ (List.mem_of_getElem? (i := 214) rfl), rfl, by decide +kernel, ⟨by decide, by decide⟩, by decide, tb_1 _ (List.mem_of_getElem? (i := 0) rfl), rfl⟩
theorem st_L_years : Cond.static yL_years ∈ lw_tbl := tb_5 _ (List.mem_of_getElem? (i := 213) rfl)
theorem t_L_years : mx_dec cL_years [(0, .aload 4, 2), (2, .iconst 0, 1), (3, .aload_n 0, 1), (4, .iload_n 1, 1), (5, .iload_n 2, 1), (6, .iload_n 3, 1), (7, .invokevirtual 84, 3), (10, .i2l, 1), (11, .lastore, 1), (12, .goto 11, 3), (15, .astore 5, 2), (17, .iconst 1, 1), (18, .ireturn, 1), (19, .astore 5, 2), (21, .iconst 2, 1), (22, .ireturn, 1), (23, .iconst 0, 1), (24, .ireturn, 1)] = true := by decide +kernel
set_option maxHeartbeats 1000000 in
theorem x_L_years_0 {d : Nat} {M : mx_M} {Q : mx_O → mx_M → Prop} (T : mx_Tp M) (v1 : Int32) (v2 : Int32) (v3 : Int32)
    (h : (mx_W m_X10_years d 0 [.ref 1, .int v1, .int v2, .int v3, .retAddr 0] [] M (fun o M1 => mx_Tp M1 ∧ ((∃ x2 : Int32, o = .inl (some (.int x2)) ∧ (∀ M3, M3 = mx_setJ M1 98 0 (x2.toInt64) → Q (.inl (some (.int 0))) M3)) ∨ (o = .inr NSE ∧ Q (.inl (some (.int 1))) M1) ∨ (o = .inr IAE ∧ Q (.inl (some (.int 2))) M1))))) :
    mx_W m_L_years (d + 1) 0 [.ref 1, .int v1, .int v2, .int v3, .ref 98, .retAddr 0] [] M Q := by
  refine mx_aload 4 (mx_da t_L_years 0 rfl) rfl rfl rfl ?_
  refine mx_iconst (v := 0) (mx_da t_L_years 1 rfl) rfl rfl ?_
  refine mx_aload_n 0 (mx_da t_L_years 2 rfl) rfl rfl rfl rfl ?_
  refine mx_iload_n 1 (mx_da t_L_years 3 rfl) rfl rfl rfl ?_
  refine mx_iload_n 2 (mx_da t_L_years 4 rfl) rfl rfl rfl ?_
  refine mx_iload_n 3 (mx_da t_L_years 5 rfl) rfl rfl rfl ?_
  refine mx_callVH yX10_years m_X10_years [.int v1, .int v2, .int v3] mm_X10_years ml_RL_84 im_X10_years se_X10_years (tp_s T 1 rfl) rfl rfl (Nat.le_of_ble_eq_true rfl) (mx_da t_L_years 6 rfl) rfl (Nat.le_of_ble_eq_true rfl) ?_
  refine mx_mono h ?_
  intro o M1 ho
  obtain ⟨T1, ho⟩ := ho
  rcases ho with ⟨x2, rfl, h⟩ | ⟨rfl, h⟩ | ⟨rfl, h⟩
  · have e1 := T1.1.trans T.1.symm
    refine ⟨e1, ?_⟩
    have T := T1
    show mx_W m_L_years (d + 1) 10 [.ref 1, .int v1, .int v2, .int v3, .ref 98, .retAddr 0] [.int x2, .int 0, .ref 98] M1 Q
    refine mx_i2l (mx_da t_L_years 7 rfl) rfl ?_
    refine mx_last (tp_s T 98 rfl) (mx_vin rfl) (mx_da t_L_years 8 rfl) rfl ?_
    refine mx_gen (mx_setJ M1 98 0 (x2.toInt64)) (fun M3 e9 => ?_)
    have h := h _ e9
    have T : mx_Tp M3 := tp_e e9 T
    refine mx_goto (n := 23) (mx_da t_L_years 9 rfl) rfl ?_
    refine mx_iconst (v := 0) (mx_da t_L_years 16 rfl) rfl rfl ?_
    exact mx_iret rfl (mx_da t_L_years 17 rfl) h
  · have e1 := T1.1.trans T.1.symm
    refine ⟨e1, 15, 17, 5, ⟨⟨⟨0, 12, 15, 18⟩, [⟨0, 12, 19, 13⟩], "java/util/NoSuchElementException", rfl, by decide, by decide, cl_RL_18, ca_NSE, Or.inl rfl⟩, by decide, Or.inr ⟨(mx_da t_L_years 10 rfl), rfl⟩⟩, ?_⟩
    have T := T1
    show mx_W m_L_years (d + 1) 17 [.ref 1, .int v1, .int v2, .int v3, .ref 98, .retAddr 0] [] M1 Q
    refine mx_iconst (v := 1) (mx_da t_L_years 11 rfl) rfl rfl ?_
    exact mx_iret rfl (mx_da t_L_years 12 rfl) h
  · have e1 := T1.1.trans T.1.symm
    refine ⟨e1, 19, 21, 5, ⟨⟨⟨0, 12, 19, 13⟩, [], "java/lang/IllegalArgumentException", rfl, by decide, by decide, cl_RL_13, ca_IAE, Or.inr ⟨⟨0, 12, 15, 18⟩, rfl, by decide, by decide, cl_RL_18, rfl⟩⟩, by decide, Or.inr ⟨(mx_da t_L_years 13 rfl), rfl⟩⟩, ?_⟩
    have T := T1
    show mx_W m_L_years (d + 1) 21 [.ref 1, .int v1, .int v2, .int v3, .ref 98, .retAddr 0] [] M1 Q
    refine mx_iconst (v := 2) (mx_da t_L_years 14 rfl) rfl rfl ?_
    exact mx_iret rfl (mx_da t_L_years 15 rfl) h
def m_L_compromise : mx_Me := (RL, cL_compromise, 4, (some .int), tableOf [(0, 9, 12, 18)], "compromise")
theorem mm_L_compromise : mx_MtX yL_compromise m_L_compromise [(0, 9, 12, 18)] := ⟨rfl, tb_5 _ (List.mem_of_getElem? (i := 233) rfl), rfl, by decide +kernel, ⟨by decide, by decide⟩, by decide, tb_1 _ (List.mem_of_getElem? (i := 0) rfl), rfl⟩
theorem st_L_compromise : Cond.static yL_compromise ∈ lw_tbl := tb_5 _ (List.mem_of_getElem? (i := 232) rfl)
theorem t_L_compromise : mx_dec cL_compromise [(0, .aload_n 2, 1), (1, .iconst 0, 1), (2, .aload_n 0, 1), (3, .iload_n 1, 1), (4, .invokevirtual 87, 3), (7, .i2l, 1), (8, .lastore, 1), (9, .goto 6, 3), (12, .astore_n 3, 1), (13, .iconst 1, 1), (14, .ireturn, 1), (15, .iconst 0, 1), (16, .ireturn, 1)] = true := by decide +kernel
set_option maxHeartbeats 1000000 in
theorem x_L_compromise_0 {d : Nat} {M : mx_M} {Q : mx_O → mx_M → Prop} (T : mx_Tp M) (v1 : Int32)
    (h : (mx_W m_X10_compromise d 0 [.ref 1, .int v1] [] M (fun o M1 => mx_Tp M1 ∧ ((∃ x2 : Int32, o = .inl (some (.int x2)) ∧ (∀ M3, M3 = mx_setJ M1 98 0 (x2.toInt64) → Q (.inl (some (.int 0))) M3)) ∨ (o = .inr NSE ∧ Q (.inl (some (.int 1))) M1))))) :
    mx_W m_L_compromise (d + 1) 0 [.ref 1, .int v1, .ref 98, .retAddr 0] [] M Q := by
  refine mx_aload_n 2 (mx_da t_L_compromise 0 rfl) rfl rfl rfl rfl ?_
  refine mx_iconst (v := 0) (mx_da t_L_compromise 1 rfl) rfl rfl ?_
  refine mx_aload_n 0 (mx_da t_L_compromise 2 rfl) rfl rfl rfl rfl ?_
  refine mx_iload_n 1 (mx_da t_L_compromise 3 rfl) rfl rfl rfl ?_
  refine mx_callVH yX10_compromise m_X10_compromise [.int v1] mm_X10_compromise ml_RL_87 im_X10_compromise se_X10_compromise (tp_s T 1 rfl) rfl rfl (Nat.le_of_ble_eq_true rfl) (mx_da t_L_compromise 4 rfl) rfl (Nat.le_of_ble_eq_true rfl) ?_
  refine mx_mono h ?_
  intro o M1 ho
  obtain ⟨T1, ho⟩ := ho
  rcases ho with ⟨x2, rfl, h⟩ | ⟨rfl, h⟩
  · have e1 := T1.1.trans T.1.symm
    refine ⟨e1, ?_⟩
    have T := T1
    show mx_W m_L_compromise (d + 1) 7 [.ref 1, .int v1, .ref 98, .retAddr 0] [.int x2, .int 0, .ref 98] M1 Q
    refine mx_i2l (mx_da t_L_compromise 5 rfl) rfl ?_
    refine mx_last (tp_s T 98 rfl) (mx_vin rfl) (mx_da t_L_compromise 6 rfl) rfl ?_
    refine mx_gen (mx_setJ M1 98 0 (x2.toInt64)) (fun M3 e9 => ?_)
    have h := h _ e9
    have T : mx_Tp M3 := tp_e e9 T
    refine mx_goto (n := 15) (mx_da t_L_compromise 7 rfl) rfl ?_
    refine mx_iconst (v := 0) (mx_da t_L_compromise 11 rfl) rfl rfl ?_
    exact mx_iret rfl (mx_da t_L_compromise 12 rfl) h
  · have e1 := T1.1.trans T.1.symm
    refine ⟨e1, 12, 13, 3, ⟨⟨⟨0, 9, 12, 18⟩, [], "java/util/NoSuchElementException", rfl, by decide, by decide, cl_RL_18, ca_NSE, Or.inl rfl⟩, by decide, Or.inl ⟨3, (mx_da t_L_compromise 8 rfl), rfl, rfl⟩⟩, ?_⟩
    have T := T1
    show mx_W m_L_compromise (d + 1) 13 [.ref 1, .int v1, .ref 98, .retAddr 0] [] M1 Q
    refine mx_iconst (v := 1) (mx_da t_L_compromise 9 rfl) rfl rfl ?_
    exact mx_iret rfl (mx_da t_L_compromise 10 rfl) h
def m_L_closest : mx_Me := (RL, cL_closest, 4, (some .int), tableOf [(0, 9, 12, 18)], "closest")
theorem mm_L_closest : mx_MtX yL_closest m_L_closest [(0, 9, 12, 18)] := ⟨rfl, tb_6 _ (List.mem_of_getElem? (i := 22) rfl), rfl, by decide +kernel, ⟨by decide, by decide⟩, by decide, tb_1 _ (List.mem_of_getElem? (i := 0) rfl), rfl⟩
theorem st_L_closest : Cond.static yL_closest ∈ lw_tbl := tb_6 _ (List.mem_of_getElem? (i := 21) rfl)
theorem t_L_closest : mx_dec cL_closest [(0, .aload_n 2, 1), (1, .iconst 0, 1), (2, .aload_n 0, 1), (3, .iload_n 1, 1), (4, .invokevirtual 90, 3), (7, .i2l, 1), (8, .lastore, 1), (9, .goto 6, 3), (12, .astore_n 3, 1), (13, .iconst 1, 1), (14, .ireturn, 1), (15, .iconst 0, 1), (16, .ireturn, 1)] = true := by decide +kernel
set_option maxHeartbeats 1000000 in
theorem x_L_closest_0 {d : Nat} {M : mx_M} {Q : mx_O → mx_M → Prop} (T : mx_Tp M) (v1 : Int32)
    (h : (mx_W m_X10_closest d 0 [.ref 1, .int v1, .retAddr 0, .retAddr 0, .retAddr 0, .retAddr 0, .retAddr 0] [] M (fun o M1 => mx_Tp M1 ∧ ((∃ x2 : Int32, o = .inl (some (.int x2)) ∧ (∀ M3, M3 = mx_setJ M1 98 0 (x2.toInt64) → Q (.inl (some (.int 0))) M3)) ∨ (o = .inr NSE ∧ Q (.inl (some (.int 1))) M1))))) :
    mx_W m_L_closest (d + 1) 0 [.ref 1, .int v1, .ref 98, .retAddr 0] [] M Q := by
  refine mx_aload_n 2 (mx_da t_L_closest 0 rfl) rfl rfl rfl rfl ?_
  refine mx_iconst (v := 0) (mx_da t_L_closest 1 rfl) rfl rfl ?_
  refine mx_aload_n 0 (mx_da t_L_closest 2 rfl) rfl rfl rfl rfl ?_
  refine mx_iload_n 1 (mx_da t_L_closest 3 rfl) rfl rfl rfl ?_
  refine mx_callVH yX10_closest m_X10_closest [.int v1] mm_X10_closest ml_RL_90 im_X10_closest se_X10_closest (tp_s T 1 rfl) rfl rfl (Nat.le_of_ble_eq_true rfl) (mx_da t_L_closest 4 rfl) rfl (Nat.le_of_ble_eq_true rfl) ?_
  refine mx_mono h ?_
  intro o M1 ho
  obtain ⟨T1, ho⟩ := ho
  rcases ho with ⟨x2, rfl, h⟩ | ⟨rfl, h⟩
  · have e1 := T1.1.trans T.1.symm
    refine ⟨e1, ?_⟩
    have T := T1
    show mx_W m_L_closest (d + 1) 7 [.ref 1, .int v1, .ref 98, .retAddr 0] [.int x2, .int 0, .ref 98] M1 Q
    refine mx_i2l (mx_da t_L_closest 5 rfl) rfl ?_
    refine mx_last (tp_s T 98 rfl) (mx_vin rfl) (mx_da t_L_closest 6 rfl) rfl ?_
    refine mx_gen (mx_setJ M1 98 0 (x2.toInt64)) (fun M3 e9 => ?_)
    have h := h _ e9
    have T : mx_Tp M3 := tp_e e9 T
    refine mx_goto (n := 15) (mx_da t_L_closest 7 rfl) rfl ?_
    refine mx_iconst (v := 0) (mx_da t_L_closest 11 rfl) rfl rfl ?_
    exact mx_iret rfl (mx_da t_L_closest 12 rfl) h
  · have e1 := T1.1.trans T.1.symm
    refine ⟨e1, 12, 13, 3, ⟨⟨⟨0, 9, 12, 18⟩, [], "java/util/NoSuchElementException", rfl, by decide, by decide, cl_RL_18, ca_NSE, Or.inl rfl⟩, by decide, Or.inl ⟨3, (mx_da t_L_closest 8 rfl), rfl, rfl⟩⟩, ?_⟩
    have T := T1
    show mx_W m_L_closest (d + 1) 13 [.ref 1, .int v1, .ref 98, .retAddr 0] [] M1 Q
    refine mx_iconst (v := 1) (mx_da t_L_closest 9 rfl) rfl rfl ?_
    exact mx_iret rfl (mx_da t_L_closest 10 rfl) h
def m_L_off : mx_Me := (RL, cL_off, 5, (some .int), tableOf [(0, 10, 13, 18)], "off")
theorem mm_L_off : mx_MtX yL_off m_L_off [(0, 10, 13, 18)] := ⟨rfl, tb_6 _ (List.mem_of_getElem? (i := 29) rfl), rfl, by decide +kernel, ⟨by decide, by decide⟩, by decide, tb_1 _ (List.mem_of_getElem? (i := 0) rfl), rfl⟩
theorem st_L_off : Cond.static yL_off ∈ lw_tbl := tb_6 _ (List.mem_of_getElem? (i := 28) rfl)
theorem t_L_off : mx_dec cL_off [(0, .aload_n 3, 1), (1, .iconst 0, 1), (2, .aload_n 0, 1), (3, .iload_n 1, 1), (4, .iload_n 2, 1), (5, .invokevirtual 93, 3), (8, .i2l, 1), (9, .lastore, 1), (10, .goto 7, 3), (13, .astore 4, 2), (15, .iconst 1, 1), (16, .ireturn, 1), (17, .iconst 0, 1), (18, .ireturn, 1)] = true := by decide +kernel
set_option maxHeartbeats 1000000 in
theorem x_L_off_0 {d : Nat} {M : mx_M} {Q : mx_O → mx_M → Prop} (T : mx_Tp M) (v1 : Int32) (v2 : Int32)
    (h : (mx_W m_X10_off d 0 [.ref 1, .int v1, .int v2, .retAddr 0] [] M (fun o M1 => mx_Tp M1 ∧ ((∃ x2 : Int32, o = .inl (some (.int x2)) ∧ (∀ M3, M3 = mx_setJ M1 98 0 (x2.toInt64) → Q (.inl (some (.int 0))) M3)) ∨ (o = .inr NSE ∧ Q (.inl (some (.int 1))) M1))))) :
    mx_W m_L_off (d + 1) 0 [.ref 1, .int v1, .int v2, .ref 98, .retAddr 0] [] M Q := by
  refine mx_aload_n 3 (mx_da t_L_off 0 rfl) rfl rfl rfl rfl ?_
  refine mx_iconst (v := 0) (mx_da t_L_off 1 rfl) rfl rfl ?_
  refine mx_aload_n 0 (mx_da t_L_off 2 rfl) rfl rfl rfl rfl ?_
  refine mx_iload_n 1 (mx_da t_L_off 3 rfl) rfl rfl rfl ?_
  refine mx_iload_n 2 (mx_da t_L_off 4 rfl) rfl rfl rfl ?_
  refine mx_callVH yX10_off m_X10_off [.int v1, .int v2] mm_X10_off ml_RL_93 im_X10_off se_X10_off (tp_s T 1 rfl) rfl rfl (Nat.le_of_ble_eq_true rfl) (mx_da t_L_off 5 rfl) rfl (Nat.le_of_ble_eq_true rfl) ?_
  refine mx_mono h ?_
  intro o M1 ho
  obtain ⟨T1, ho⟩ := ho
  rcases ho with ⟨x2, rfl, h⟩ | ⟨rfl, h⟩
  · have e1 := T1.1.trans T.1.symm
    refine ⟨e1, ?_⟩
    have T := T1
    show mx_W m_L_off (d + 1) 8 [.ref 1, .int v1, .int v2, .ref 98, .retAddr 0] [.int x2, .int 0, .ref 98] M1 Q
    refine mx_i2l (mx_da t_L_off 6 rfl) rfl ?_
    refine mx_last (tp_s T 98 rfl) (mx_vin rfl) (mx_da t_L_off 7 rfl) rfl ?_
    refine mx_gen (mx_setJ M1 98 0 (x2.toInt64)) (fun M3 e9 => ?_)
    have h := h _ e9
    have T : mx_Tp M3 := tp_e e9 T
    refine mx_goto (n := 17) (mx_da t_L_off 8 rfl) rfl ?_
    refine mx_iconst (v := 0) (mx_da t_L_off 12 rfl) rfl rfl ?_
    exact mx_iret rfl (mx_da t_L_off 13 rfl) h
  · have e1 := T1.1.trans T.1.symm
    refine ⟨e1, 13, 15, 4, ⟨⟨⟨0, 10, 13, 18⟩, [], "java/util/NoSuchElementException", rfl, by decide, by decide, cl_RL_18, ca_NSE, Or.inl rfl⟩, by decide, Or.inr ⟨(mx_da t_L_off 9 rfl), rfl⟩⟩, ?_⟩
    have T := T1
    show mx_W m_L_off (d + 1) 15 [.ref 1, .int v1, .int v2, .ref 98, .retAddr 0] [] M1 Q
    refine mx_iconst (v := 1) (mx_da t_L_off 10 rfl) rfl rfl ?_
    exact mx_iret rfl (mx_da t_L_off 11 rfl) h
def m_L_worst : mx_Me := (RL, cL_worst, 5, (some .int), tableOf [(0, 10, 13, 18)], "worst")
theorem mm_L_worst : mx_MtX yL_worst m_L_worst [(0, 10, 13, 18)] := ⟨rfl, tb_6 _ (List.mem_of_getElem? (i := 40) rfl), rfl, by decide +kernel, ⟨by decide, by decide⟩, by decide, tb_1 _ (List.mem_of_getElem? (i := 0) rfl), rfl⟩
theorem st_L_worst : Cond.static yL_worst ∈ lw_tbl := tb_6 _ (List.mem_of_getElem? (i := 39) rfl)
theorem t_L_worst : mx_dec cL_worst [(0, .aload_n 3, 1), (1, .iconst 0, 1), (2, .aload_n 0, 1), (3, .iload_n 1, 1), (4, .iload_n 2, 1), (5, .invokevirtual 96, 3), (8, .i2l, 1), (9, .lastore, 1), (10, .goto 7, 3), (13, .astore 4, 2), (15, .iconst 1, 1), (16, .ireturn, 1), (17, .iconst 0, 1), (18, .ireturn, 1)] = true := by decide +kernel
set_option maxHeartbeats 1000000 in
theorem x_L_worst_0 {d : Nat} {M : mx_M} {Q : mx_O → mx_M → Prop} (T : mx_Tp M) (v1 : Int32) (v2 : Int32)
    (h : (mx_W m_X10_worst d 0 [.ref 1, .int v1, .int v2, .retAddr 0, .retAddr 0, .retAddr 0, .retAddr 0] [] M (fun o M1 => mx_Tp M1 ∧ ((∃ x2 : Int32, o = .inl (some (.int x2)) ∧ (∀ M3, M3 = mx_setJ M1 98 0 (x2.toInt64) → Q (.inl (some (.int 0))) M3)) ∨ (o = .inr NSE ∧ Q (.inl (some (.int 1))) M1))))) :
    mx_W m_L_worst (d + 1) 0 [.ref 1, .int v1, .int v2, .ref 98, .retAddr 0] [] M Q := by
  refine mx_aload_n 3 (mx_da t_L_worst 0 rfl) rfl rfl rfl rfl ?_
  refine mx_iconst (v := 0) (mx_da t_L_worst 1 rfl) rfl rfl ?_
  refine mx_aload_n 0 (mx_da t_L_worst 2 rfl) rfl rfl rfl rfl ?_
  refine mx_iload_n 1 (mx_da t_L_worst 3 rfl) rfl rfl rfl ?_
  refine mx_iload_n 2 (mx_da t_L_worst 4 rfl) rfl rfl rfl ?_
  refine mx_callVH yX10_worst m_X10_worst [.int v1, .int v2] mm_X10_worst ml_RL_96 im_X10_worst se_X10_worst (tp_s T 1 rfl) rfl rfl (Nat.le_of_ble_eq_true rfl) (mx_da t_L_worst 5 rfl) rfl (Nat.le_of_ble_eq_true rfl) ?_
  refine mx_mono h ?_
  intro o M1 ho
  obtain ⟨T1, ho⟩ := ho
  rcases ho with ⟨x2, rfl, h⟩ | ⟨rfl, h⟩
  · have e1 := T1.1.trans T.1.symm
    refine ⟨e1, ?_⟩
    have T := T1
    show mx_W m_L_worst (d + 1) 8 [.ref 1, .int v1, .int v2, .ref 98, .retAddr 0] [.int x2, .int 0, .ref 98] M1 Q
    refine mx_i2l (mx_da t_L_worst 6 rfl) rfl ?_
    refine mx_last (tp_s T 98 rfl) (mx_vin rfl) (mx_da t_L_worst 7 rfl) rfl ?_
    refine mx_gen (mx_setJ M1 98 0 (x2.toInt64)) (fun M3 e9 => ?_)
    have h := h _ e9
    have T : mx_Tp M3 := tp_e e9 T
    refine mx_goto (n := 17) (mx_da t_L_worst 8 rfl) rfl ?_
    refine mx_iconst (v := 0) (mx_da t_L_worst 12 rfl) rfl rfl ?_
    exact mx_iret rfl (mx_da t_L_worst 13 rfl) h
  · have e1 := T1.1.trans T.1.symm
    refine ⟨e1, 13, 15, 4, ⟨⟨⟨0, 10, 13, 18⟩, [], "java/util/NoSuchElementException", rfl, by decide, by decide, cl_RL_18, ca_NSE, Or.inl rfl⟩, by decide, Or.inr ⟨(mx_da t_L_worst 9 rfl), rfl⟩⟩, ?_⟩
    have T := T1
    show mx_W m_L_worst (d + 1) 15 [.ref 1, .int v1, .int v2, .ref 98, .retAddr 0] [] M1 Q
    refine mx_iconst (v := 1) (mx_da t_L_worst 10 rfl) rfl rfl ?_
    exact mx_iret rfl (mx_da t_L_worst 11 rfl) h
def m_L_trays : mx_Me := (RL, cL_trays, 6, (some .int), tableOf [(0, 12, 15, 18), (0, 12, 19, 13)], "trays")
theorem mm_L_trays : mx_MtX yL_trays m_L_trays [(0, 12, 15, 18), (0, 12, 19, 13)] := ⟨rfl, tb_6 _ (List.mem_of_getElem? (i := 52) rfl), rfl, by decide +kernel, ⟨by decide, by decide⟩, by decide, tb_1 _ (List.mem_of_getElem? (i := 0) rfl), rfl⟩
theorem st_L_trays : Cond.static yL_trays ∈ lw_tbl := tb_6 _ (List.mem_of_getElem? (i := 51) rfl)
theorem t_L_trays : mx_dec cL_trays [(0, .aload 4, 2), (2, .iconst 0, 1), (3, .aload_n 0, 1), (4, .iload_n 1, 1), (5, .iload_n 2, 1), (6, .iload_n 3, 1), (7, .invokevirtual 99, 3), (10, .i2l, 1), (11, .lastore, 1), (12, .goto 11, 3), (15, .astore 5, 2), (17, .iconst 1, 1), (18, .ireturn, 1), (19, .astore 5, 2), (21, .iconst 2, 1), (22, .ireturn, 1), (23, .iconst 0, 1), (24, .ireturn, 1)] = true := by decide +kernel
set_option maxHeartbeats 1000000 in
theorem x_L_trays_0 {d : Nat} {M : mx_M} {Q : mx_O → mx_M → Prop} (T : mx_Tp M) (v1 : Int32) (v2 : Int32) (v3 : Int32)
    (h : (mx_W m_X10_trays d 0 [.ref 1, .int v1, .int v2, .int v3, .retAddr 0] [] M (fun o M1 => mx_Tp M1 ∧ ((∃ x2 : Int32, o = .inl (some (.int x2)) ∧ (∀ M3, M3 = mx_setJ M1 98 0 (x2.toInt64) → Q (.inl (some (.int 0))) M3)) ∨ (o = .inr NSE ∧ Q (.inl (some (.int 1))) M1) ∨ (o = .inr IAE ∧ Q (.inl (some (.int 2))) M1))))) :
    mx_W m_L_trays (d + 1) 0 [.ref 1, .int v1, .int v2, .int v3, .ref 98, .retAddr 0] [] M Q := by
  refine mx_aload 4 (mx_da t_L_trays 0 rfl) rfl rfl rfl ?_
  refine mx_iconst (v := 0) (mx_da t_L_trays 1 rfl) rfl rfl ?_
  refine mx_aload_n 0 (mx_da t_L_trays 2 rfl) rfl rfl rfl rfl ?_
  refine mx_iload_n 1 (mx_da t_L_trays 3 rfl) rfl rfl rfl ?_
  refine mx_iload_n 2 (mx_da t_L_trays 4 rfl) rfl rfl rfl ?_
  refine mx_iload_n 3 (mx_da t_L_trays 5 rfl) rfl rfl rfl ?_
  refine mx_callVH yX10_trays m_X10_trays [.int v1, .int v2, .int v3] mm_X10_trays ml_RL_99 im_X10_trays se_X10_trays (tp_s T 1 rfl) rfl rfl (Nat.le_of_ble_eq_true rfl) (mx_da t_L_trays 6 rfl) rfl (Nat.le_of_ble_eq_true rfl) ?_
  refine mx_mono h ?_
  intro o M1 ho
  obtain ⟨T1, ho⟩ := ho
  rcases ho with ⟨x2, rfl, h⟩ | ⟨rfl, h⟩ | ⟨rfl, h⟩
  · have e1 := T1.1.trans T.1.symm
    refine ⟨e1, ?_⟩
    have T := T1
    show mx_W m_L_trays (d + 1) 10 [.ref 1, .int v1, .int v2, .int v3, .ref 98, .retAddr 0] [.int x2, .int 0, .ref 98] M1 Q
    refine mx_i2l (mx_da t_L_trays 7 rfl) rfl ?_
    refine mx_last (tp_s T 98 rfl) (mx_vin rfl) (mx_da t_L_trays 8 rfl) rfl ?_
    refine mx_gen (mx_setJ M1 98 0 (x2.toInt64)) (fun M3 e9 => ?_)
    have h := h _ e9
    have T : mx_Tp M3 := tp_e e9 T
    refine mx_goto (n := 23) (mx_da t_L_trays 9 rfl) rfl ?_
    refine mx_iconst (v := 0) (mx_da t_L_trays 16 rfl) rfl rfl ?_
    exact mx_iret rfl (mx_da t_L_trays 17 rfl) h
  · have e1 := T1.1.trans T.1.symm
    refine ⟨e1, 15, 17, 5, ⟨⟨⟨0, 12, 15, 18⟩, [⟨0, 12, 19, 13⟩], "java/util/NoSuchElementException", rfl, by decide, by decide, cl_RL_18, ca_NSE, Or.inl rfl⟩, by decide, Or.inr ⟨(mx_da t_L_trays 10 rfl), rfl⟩⟩, ?_⟩
    have T := T1
    show mx_W m_L_trays (d + 1) 17 [.ref 1, .int v1, .int v2, .int v3, .ref 98, .retAddr 0] [] M1 Q
    refine mx_iconst (v := 1) (mx_da t_L_trays 11 rfl) rfl rfl ?_
    exact mx_iret rfl (mx_da t_L_trays 12 rfl) h
  · have e1 := T1.1.trans T.1.symm
    refine ⟨e1, 19, 21, 5, ⟨⟨⟨0, 12, 19, 13⟩, [], "java/lang/IllegalArgumentException", rfl, by decide, by decide, cl_RL_13, ca_IAE, Or.inr ⟨⟨0, 12, 15, 18⟩, rfl, by decide, by decide, cl_RL_18, rfl⟩⟩, by decide, Or.inr ⟨(mx_da t_L_trays 13 rfl), rfl⟩⟩, ?_⟩
    have T := T1
    show mx_W m_L_trays (d + 1) 21 [.ref 1, .int v1, .int v2, .int v3, .ref 98, .retAddr 0] [] M1 Q
    refine mx_iconst (v := 2) (mx_da t_L_trays 14 rfl) rfl rfl ?_
    exact mx_iret rfl (mx_da t_L_trays 15 rfl) h
