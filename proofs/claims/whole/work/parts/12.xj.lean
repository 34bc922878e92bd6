/-! the walks of the library methods (by tools/conf.py) -/
set_option maxHeartbeats 1000000 in
theorem x_J6_compare_7cf53_0 {d : Nat} {M : mx_M} {Q : mx_O → mx_M → Prop} (T : mx_Tp M) (v0 : Int32) (v1 : Int32)
    (h : ((v1 ≤ v0 → ((¬ v0 = v1 → Q (.inl (some (.int 1))) M) ∧ (v0 = v1 → Q (.inl (some (.int 0))) M))) ∧ (¬ v1 ≤ v0 → Q (.inl (some (.int (-1)))) M))) :
    mx_W m_J6_compare_7cf53 d 0 [.int v0, .int v1] [] M Q := by
  refine mx_iload_n 0 (mx_da t_J6_compare_7cf53 0 rfl) rfl rfl rfl ?_
  refine mx_iload_n 1 (mx_da t_J6_compare_7cf53 1 rfl) rfl rfl rfl ?_
  refine mx_icmp_ge 9 (mx_da t_J6_compare_7cf53 2 rfl) rfl rfl (fun g9 => ?_) (fun g9 => ?_)
  · have h := h.1 g9
    refine mx_iload_n 0 (mx_da t_J6_compare_7cf53 5 rfl) rfl rfl rfl ?_
    refine mx_iload_n 1 (mx_da t_J6_compare_7cf53 6 rfl) rfl rfl rfl ?_
    refine mx_icmp_ne 18 (mx_da t_J6_compare_7cf53 7 rfl) rfl rfl (fun g9 => ?_) (fun g9 => ?_)
    · have h := h.1 g9
      refine mx_iconst (v := 1) (mx_da t_J6_compare_7cf53 10 rfl) rfl rfl ?_
      exact mx_iret rfl (mx_da t_J6_compare_7cf53 11 rfl) h
    · have h := h.2 g9
      refine mx_iconst (v := 0) (mx_da t_J6_compare_7cf53 8 rfl) rfl rfl ?_
      refine mx_goto (n := 19) (mx_da t_J6_compare_7cf53 9 rfl) rfl ?_
      exact mx_iret rfl (mx_da t_J6_compare_7cf53 11 rfl) h
  · have h := h.2 g9
    refine mx_iconst (v := (-1)) (mx_da t_J6_compare_7cf53 3 rfl) rfl rfl ?_
    refine mx_goto (n := 19) (mx_da t_J6_compare_7cf53 4 rfl) rfl ?_
    exact mx_iret rfl (mx_da t_J6_compare_7cf53 11 rfl) h
set_option maxHeartbeats 1000000 in
theorem x_J6_bitCount_0f7a4_0 {d : Nat} {M : mx_M} {Q : mx_O → mx_M → Prop} (T : mx_Tp M) (v0 : Int32)
    (h : Q (.inl (some (.int ((((((((v0 - (((v0.toUInt32 >>> ((1 : Int32).toUInt32 &&& Int32.toUInt32 31)).toInt32) &&& 1431655765)) &&& 858993459) + ((((v0 - (((v0.toUInt32 >>> ((1 : Int32).toUInt32 &&& Int32.toUInt32 31)).toInt32) &&& 1431655765)).toUInt32 >>> ((2 : Int32).toUInt32 &&& Int32.toUInt32 31)).toInt32) &&& 858993459)) + (((((v0 - (((v0.toUInt32 >>> ((1 : Int32).toUInt32 &&& Int32.toUInt32 31)).toInt32) &&& 1431655765)) &&& 858993459) + ((((v0 - (((v0.toUInt32 >>> ((1 : Int32).toUInt32 &&& Int32.toUInt32 31)).toInt32) &&& 1431655765)).toUInt32 >>> ((2 : Int32).toUInt32 &&& Int32.toUInt32 31)).toInt32) &&& 858993459)).toUInt32 >>> ((4 : Int32).toUInt32 &&& Int32.toUInt32 31)).toInt32)) &&& 252645135) + (((((((v0 - (((v0.toUInt32 >>> ((1 : Int32).toUInt32 &&& Int32.toUInt32 31)).toInt32) &&& 1431655765)) &&& 858993459) + ((((v0 - (((v0.toUInt32 >>> ((1 : Int32).toUInt32 &&& Int32.toUInt32 31)).toInt32) &&& 1431655765)).toUInt32 >>> ((2 : Int32).toUInt32 &&& Int32.toUInt32 31)).toInt32) &&& 858993459)) + (((((v0 - (((v0.toUInt32 >>> ((1 : Int32).toUInt32 &&& Int32.toUInt32 31)).toInt32) &&& 1431655765)) &&& 858993459) + ((((v0 - (((v0.toUInt32 >>> ((1 : Int32).toUInt32 &&& Int32.toUInt32 31)).toInt32) &&& 1431655765)).toUInt32 >>> ((2 : Int32).toUInt32 &&& Int32.toUInt32 31)).toInt32) &&& 858993459)).toUInt32 >>> ((4 : Int32).toUInt32 &&& Int32.toUInt32 31)).toInt32)) &&& 252645135).toUInt32 >>> ((8 : Int32).toUInt32 &&& Int32.toUInt32 31)).toInt32)) + ((((((((v0 - (((v0.toUInt32 >>> ((1 : Int32).toUInt32 &&& Int32.toUInt32 31)).toInt32) &&& 1431655765)) &&& 858993459) + ((((v0 - (((v0.toUInt32 >>> ((1 : Int32).toUInt32 &&& Int32.toUInt32 31)).toInt32) &&& 1431655765)).toUInt32 >>> ((2 : Int32).toUInt32 &&& Int32.toUInt32 31)).toInt32) &&& 858993459)) + (((((v0 - (((v0.toUInt32 >>> ((1 : Int32).toUInt32 &&& Int32.toUInt32 31)).toInt32) &&& 1431655765)) &&& 858993459) + ((((v0 - (((v0.toUInt32 >>> ((1 : Int32).toUInt32 &&& Int32.toUInt32 31)).toInt32) &&& 1431655765)).toUInt32 >>> ((2 : Int32).toUInt32 &&& Int32.toUInt32 31)).toInt32) &&& 858993459)).toUInt32 >>> ((4 : Int32).toUInt32 &&& Int32.toUInt32 31)).toInt32)) &&& 252645135) + (((((((v0 - (((v0.toUInt32 >>> ((1 : Int32).toUInt32 &&& Int32.toUInt32 31)).toInt32) &&& 1431655765)) &&& 858993459) + ((((v0 - (((v0.toUInt32 >>> ((1 : Int32).toUInt32 &&& Int32.toUInt32 31)).toInt32) &&& 1431655765)).toUInt32 >>> ((2 : Int32).toUInt32 &&& Int32.toUInt32 31)).toInt32) &&& 858993459)) + (((((v0 - (((v0.toUInt32 >>> ((1 : Int32).toUInt32 &&& Int32.toUInt32 31)).toInt32) &&& 1431655765)) &&& 858993459) + ((((v0 - (((v0.toUInt32 >>> ((1 : Int32).toUInt32 &&& Int32.toUInt32 31)).toInt32) &&& 1431655765)).toUInt32 >>> ((2 : Int32).toUInt32 &&& Int32.toUInt32 31)).toInt32) &&& 858993459)).toUInt32 >>> ((4 : Int32).toUInt32 &&& Int32.toUInt32 31)).toInt32)) &&& 252645135).toUInt32 >>> ((8 : Int32).toUInt32 &&& Int32.toUInt32 31)).toInt32)).toUInt32 >>> ((16 : Int32).toUInt32 &&& Int32.toUInt32 31)).toInt32)) &&& 63)))) M) :
    mx_W m_J6_bitCount_0f7a4 d 0 [.int v0] [] M Q := by
  refine mx_iload_n 0 (mx_da t_J6_bitCount_0f7a4 0 rfl) rfl rfl rfl ?_
  refine mx_iload_n 0 (mx_da t_J6_bitCount_0f7a4 1 rfl) rfl rfl rfl ?_
  refine mx_iconst (v := 1) (mx_da t_J6_bitCount_0f7a4 2 rfl) rfl rfl ?_
  refine mx_iushr (mx_da t_J6_bitCount_0f7a4 3 rfl) rfl ?_
  refine mx_ldcw cn_RJ6_265 (mx_da t_J6_bitCount_0f7a4 4 rfl) rfl ?_
  refine mx_iand (mx_da t_J6_bitCount_0f7a4 5 rfl) rfl ?_
  refine mx_isub (mx_da t_J6_bitCount_0f7a4 6 rfl) rfl ?_
  refine mx_istore_n 0 [.int (v0 - (((v0.toUInt32 >>> ((1 : Int32).toUInt32 &&& Int32.toUInt32 31)).toInt32) &&& 1431655765))] (mx_da t_J6_bitCount_0f7a4 7 rfl) rfl rfl (by decide) rfl ?_
  refine mx_iload_n 0 (mx_da t_J6_bitCount_0f7a4 8 rfl) rfl rfl rfl ?_
  refine mx_ldcw cn_RJ6_266 (mx_da t_J6_bitCount_0f7a4 9 rfl) rfl ?_
  refine mx_iand (mx_da t_J6_bitCount_0f7a4 10 rfl) rfl ?_
  refine mx_iload_n 0 (mx_da t_J6_bitCount_0f7a4 11 rfl) rfl rfl rfl ?_
  refine mx_iconst (v := 2) (mx_da t_J6_bitCount_0f7a4 12 rfl) rfl rfl ?_
  refine mx_iushr (mx_da t_J6_bitCount_0f7a4 13 rfl) rfl ?_
  refine mx_ldcw cn_RJ6_266 (mx_da t_J6_bitCount_0f7a4 14 rfl) rfl ?_
  refine mx_iand (mx_da t_J6_bitCount_0f7a4 15 rfl) rfl ?_
  refine mx_iadd (mx_da t_J6_bitCount_0f7a4 16 rfl) rfl ?_
  refine mx_istore_n 0 [.int (((v0 - (((v0.toUInt32 >>> ((1 : Int32).toUInt32 &&& Int32.toUInt32 31)).toInt32) &&& 1431655765)) &&& 858993459) + ((((v0 - (((v0.toUInt32 >>> ((1 : Int32).toUInt32 &&& Int32.toUInt32 31)).toInt32) &&& 1431655765)).toUInt32 >>> ((2 : Int32).toUInt32 &&& Int32.toUInt32 31)).toInt32) &&& 858993459))] (mx_da t_J6_bitCount_0f7a4 17 rfl) rfl rfl (by decide) rfl ?_
  refine mx_iload_n 0 (mx_da t_J6_bitCount_0f7a4 18 rfl) rfl rfl rfl ?_
  refine mx_iload_n 0 (mx_da t_J6_bitCount_0f7a4 19 rfl) rfl rfl rfl ?_
  refine mx_iconst (v := 4) (mx_da t_J6_bitCount_0f7a4 20 rfl) rfl rfl ?_
  refine mx_iushr (mx_da t_J6_bitCount_0f7a4 21 rfl) rfl ?_
  refine mx_iadd (mx_da t_J6_bitCount_0f7a4 22 rfl) rfl ?_
  refine mx_ldcw cn_RJ6_267 (mx_da t_J6_bitCount_0f7a4 23 rfl) rfl ?_
  refine mx_iand (mx_da t_J6_bitCount_0f7a4 24 rfl) rfl ?_
  refine mx_istore_n 0 [.int (((((v0 - (((v0.toUInt32 >>> ((1 : Int32).toUInt32 &&& Int32.toUInt32 31)).toInt32) &&& 1431655765)) &&& 858993459) + ((((v0 - (((v0.toUInt32 >>> ((1 : Int32).toUInt32 &&& Int32.toUInt32 31)).toInt32) &&& 1431655765)).toUInt32 >>> ((2 : Int32).toUInt32 &&& Int32.toUInt32 31)).toInt32) &&& 858993459)) + (((((v0 - (((v0.toUInt32 >>> ((1 : Int32).toUInt32 &&& Int32.toUInt32 31)).toInt32) &&& 1431655765)) &&& 858993459) + ((((v0 - (((v0.toUInt32 >>> ((1 : Int32).toUInt32 &&& Int32.toUInt32 31)).toInt32) &&& 1431655765)).toUInt32 >>> ((2 : Int32).toUInt32 &&& Int32.toUInt32 31)).toInt32) &&& 858993459)).toUInt32 >>> ((4 : Int32).toUInt32 &&& Int32.toUInt32 31)).toInt32)) &&& 252645135)] (mx_da t_J6_bitCount_0f7a4 25 rfl) rfl rfl (by decide) rfl ?_
  refine mx_iload_n 0 (mx_da t_J6_bitCount_0f7a4 26 rfl) rfl rfl rfl ?_
  refine mx_iload_n 0 (mx_da t_J6_bitCount_0f7a4 27 rfl) rfl rfl rfl ?_
  refine mx_bipush (v := 8) (mx_da t_J6_bitCount_0f7a4 28 rfl) rfl rfl ?_
  refine mx_iushr (mx_da t_J6_bitCount_0f7a4 29 rfl) rfl ?_
  refine mx_iadd (mx_da t_J6_bitCount_0f7a4 30 rfl) rfl ?_
  refine mx_istore_n 0 [.int ((((((v0 - (((v0.toUInt32 >>> ((1 : Int32).toUInt32 &&& Int32.toUInt32 31)).toInt32) &&& 1431655765)) &&& 858993459) + ((((v0 - (((v0.toUInt32 >>> ((1 : Int32).toUInt32 &&& Int32.toUInt32 31)).toInt32) &&& 1431655765)).toUInt32 >>> ((2 : Int32).toUInt32 &&& Int32.toUInt32 31)).toInt32) &&& 858993459)) + (((((v0 - (((v0.toUInt32 >>> ((1 : Int32).toUInt32 &&& Int32.toUInt32 31)).toInt32) &&& 1431655765)) &&& 858993459) + ((((v0 - (((v0.toUInt32 >>> ((1 : Int32).toUInt32 &&& Int32.toUInt32 31)).toInt32) &&& 1431655765)).toUInt32 >>> ((2 : Int32).toUInt32 &&& Int32.toUInt32 31)).toInt32) &&& 858993459)).toUInt32 >>> ((4 : Int32).toUInt32 &&& Int32.toUInt32 31)).toInt32)) &&& 252645135) + (((((((v0 - (((v0.toUInt32 >>> ((1 : Int32).toUInt32 &&& Int32.toUInt32 31)).toInt32) &&& 1431655765)) &&& 858993459) + ((((v0 - (((v0.toUInt32 >>> ((1 : Int32).toUInt32 &&& Int32.toUInt32 31)).toInt32) &&& 1431655765)).toUInt32 >>> ((2 : Int32).toUInt32 &&& Int32.toUInt32 31)).toInt32) &&& 858993459)) + (((((v0 - (((v0.toUInt32 >>> ((1 : Int32).toUInt32 &&& Int32.toUInt32 31)).toInt32) &&& 1431655765)) &&& 858993459) + ((((v0 - (((v0.toUInt32 >>> ((1 : Int32).toUInt32 &&& Int32.toUInt32 31)).toInt32) &&& 1431655765)).toUInt32 >>> ((2 : Int32).toUInt32 &&& Int32.toUInt32 31)).toInt32) &&& 858993459)).toUInt32 >>> ((4 : Int32).toUInt32 &&& Int32.toUInt32 31)).toInt32)) &&& 252645135).toUInt32 >>> ((8 : Int32).toUInt32 &&& Int32.toUInt32 31)).toInt32))] (mx_da t_J6_bitCount_0f7a4 31 rfl) rfl rfl (by decide) rfl ?_
  refine mx_iload_n 0 (mx_da t_J6_bitCount_0f7a4 32 rfl) rfl rfl rfl ?_
  refine mx_iload_n 0 (mx_da t_J6_bitCount_0f7a4 33 rfl) rfl rfl rfl ?_
  refine mx_bipush (v := 16) (mx_da t_J6_bitCount_0f7a4 34 rfl) rfl rfl ?_
  refine mx_iushr (mx_da t_J6_bitCount_0f7a4 35 rfl) rfl ?_
  refine mx_iadd (mx_da t_J6_bitCount_0f7a4 36 rfl) rfl ?_
  refine mx_istore_n 0 [.int (((((((v0 - (((v0.toUInt32 >>> ((1 : Int32).toUInt32 &&& Int32.toUInt32 31)).toInt32) &&& 1431655765)) &&& 858993459) + ((((v0 - (((v0.toUInt32 >>> ((1 : Int32).toUInt32 &&& Int32.toUInt32 31)).toInt32) &&& 1431655765)).toUInt32 >>> ((2 : Int32).toUInt32 &&& Int32.toUInt32 31)).toInt32) &&& 858993459)) + (((((v0 - (((v0.toUInt32 >>> ((1 : Int32).toUInt32 &&& Int32.toUInt32 31)).toInt32) &&& 1431655765)) &&& 858993459) + ((((v0 - (((v0.toUInt32 >>> ((1 : Int32).toUInt32 &&& Int32.toUInt32 31)).toInt32) &&& 1431655765)).toUInt32 >>> ((2 : Int32).toUInt32 &&& Int32.toUInt32 31)).toInt32) &&& 858993459)).toUInt32 >>> ((4 : Int32).toUInt32 &&& Int32.toUInt32 31)).toInt32)) &&& 252645135) + (((((((v0 - (((v0.toUInt32 >>> ((1 : Int32).toUInt32 &&& Int32.toUInt32 31)).toInt32) &&& 1431655765)) &&& 858993459) + ((((v0 - (((v0.toUInt32 >>> ((1 : Int32).toUInt32 &&& Int32.toUInt32 31)).toInt32) &&& 1431655765)).toUInt32 >>> ((2 : Int32).toUInt32 &&& Int32.toUInt32 31)).toInt32) &&& 858993459)) + (((((v0 - (((v0.toUInt32 >>> ((1 : Int32).toUInt32 &&& Int32.toUInt32 31)).toInt32) &&& 1431655765)) &&& 858993459) + ((((v0 - (((v0.toUInt32 >>> ((1 : Int32).toUInt32 &&& Int32.toUInt32 31)).toInt32) &&& 1431655765)).toUInt32 >>> ((2 : Int32).toUInt32 &&& Int32.toUInt32 31)).toInt32) &&& 858993459)).toUInt32 >>> ((4 : Int32).toUInt32 &&& Int32.toUInt32 31)).toInt32)) &&& 252645135).toUInt32 >>> ((8 : Int32).toUInt32 &&& Int32.toUInt32 31)).toInt32)) + ((((((((v0 - (((v0.toUInt32 >>> ((1 : Int32).toUInt32 &&& Int32.toUInt32 31)).toInt32) &&& 1431655765)) &&& 858993459) + ((((v0 - (((v0.toUInt32 >>> ((1 : Int32).toUInt32 &&& Int32.toUInt32 31)).toInt32) &&& 1431655765)).toUInt32 >>> ((2 : Int32).toUInt32 &&& Int32.toUInt32 31)).toInt32) &&& 858993459)) + (((((v0 - (((v0.toUInt32 >>> ((1 : Int32).toUInt32 &&& Int32.toUInt32 31)).toInt32) &&& 1431655765)) &&& 858993459) + ((((v0 - (((v0.toUInt32 >>> ((1 : Int32).toUInt32 &&& Int32.toUInt32 31)).toInt32) &&& 1431655765)).toUInt32 >>> ((2 : Int32).toUInt32 &&& Int32.toUInt32 31)).toInt32) &&& 858993459)).toUInt32 >>> ((4 : Int32).toUInt32 &&& Int32.toUInt32 31)).toInt32)) &&& 252645135) + (((((((v0 - (((v0.toUInt32 >>> ((1 : Int32).toUInt32 &&& Int32.toUInt32 31)).toInt32) &&& 1431655765)) &&& 858993459) + ((((v0 - (((v0.toUInt32 >>> ((1 : Int32).toUInt32 &&& Int32.toUInt32 31)).toInt32) &&& 1431655765)).toUInt32 >>> ((2 : Int32).toUInt32 &&& Int32.toUInt32 31)).toInt32) &&& 858993459)) + (((((v0 - (((v0.toUInt32 >>> ((1 : Int32).toUInt32 &&& Int32.toUInt32 31)).toInt32) &&& 1431655765)) &&& 858993459) + ((((v0 - (((v0.toUInt32 >>> ((1 : Int32).toUInt32 &&& Int32.toUInt32 31)).toInt32) &&& 1431655765)).toUInt32 >>> ((2 : Int32).toUInt32 &&& Int32.toUInt32 31)).toInt32) &&& 858993459)).toUInt32 >>> ((4 : Int32).toUInt32 &&& Int32.toUInt32 31)).toInt32)) &&& 252645135).toUInt32 >>> ((8 : Int32).toUInt32 &&& Int32.toUInt32 31)).toInt32)).toUInt32 >>> ((16 : Int32).toUInt32 &&& Int32.toUInt32 31)).toInt32))] (mx_da t_J6_bitCount_0f7a4 37 rfl) rfl rfl (by decide) rfl ?_
  refine mx_iload_n 0 (mx_da t_J6_bitCount_0f7a4 38 rfl) rfl rfl rfl ?_
  refine mx_bipush (v := 63) (mx_da t_J6_bitCount_0f7a4 39 rfl) rfl rfl ?_
  refine mx_iand (mx_da t_J6_bitCount_0f7a4 40 rfl) rfl ?_
  exact mx_iret rfl (mx_da t_J6_bitCount_0f7a4 41 rfl) h
set_option maxHeartbeats 1000000 in
theorem x_J9_max_7cf53_0 {d : Nat} {M : mx_M} {Q : mx_O → mx_M → Prop} (T : mx_Tp M) (v0 : Int32) (v1 : Int32)
    (h : ((v0 < v1 → Q (.inl (some (.int v1))) M) ∧ (¬ v0 < v1 → Q (.inl (some (.int v0))) M))) :
    mx_W m_J9_max_7cf53 d 0 [.int v0, .int v1] [] M Q := by
  refine mx_iload_n 0 (mx_da t_J9_max_7cf53 0 rfl) rfl rfl rfl ?_
  refine mx_iload_n 1 (mx_da t_J9_max_7cf53 1 rfl) rfl rfl rfl ?_
  refine mx_icmp_lt 9 (mx_da t_J9_max_7cf53 2 rfl) rfl rfl (fun g9 => ?_) (fun g9 => ?_)
  · have h := h.1 g9
    refine mx_iload_n 1 (mx_da t_J9_max_7cf53 5 rfl) rfl rfl rfl ?_
    exact mx_iret rfl (mx_da t_J9_max_7cf53 6 rfl) h
  · have h := h.2 g9
    refine mx_iload_n 0 (mx_da t_J9_max_7cf53 3 rfl) rfl rfl rfl ?_
    refine mx_goto (n := 10) (mx_da t_J9_max_7cf53 4 rfl) rfl ?_
    exact mx_iret rfl (mx_da t_J9_max_7cf53 6 rfl) h
set_option maxHeartbeats 1000000 in
theorem x_J9_min_7cf53_0 {d : Nat} {M : mx_M} {Q : mx_O → mx_M → Prop} (T : mx_Tp M) (v0 : Int32) (v1 : Int32)
    (h : ((v1 < v0 → Q (.inl (some (.int v1))) M) ∧ (¬ v1 < v0 → Q (.inl (some (.int v0))) M))) :
    mx_W m_J9_min_7cf53 d 0 [.int v0, .int v1] [] M Q := by
  refine mx_iload_n 0 (mx_da t_J9_min_7cf53 0 rfl) rfl rfl rfl ?_
  refine mx_iload_n 1 (mx_da t_J9_min_7cf53 1 rfl) rfl rfl rfl ?_
  refine mx_icmp_gt 9 (mx_da t_J9_min_7cf53 2 rfl) rfl rfl (fun g9 => ?_) (fun g9 => ?_)
  · have h := h.1 g9
    refine mx_iload_n 1 (mx_da t_J9_min_7cf53 5 rfl) rfl rfl rfl ?_
    exact mx_iret rfl (mx_da t_J9_min_7cf53 6 rfl) h
  · have h := h.2 g9
    refine mx_iload_n 0 (mx_da t_J9_min_7cf53 3 rfl) rfl rfl rfl ?_
    refine mx_goto (n := 10) (mx_da t_J9_min_7cf53 4 rfl) rfl ?_
    exact mx_iret rfl (mx_da t_J9_min_7cf53 6 rfl) h
set_option maxHeartbeats 1000000 in
theorem x_J0_length_8abf5_0 {d : Nat} {M : mx_M} {Q : mx_O → mx_M → Prop} (T : mx_Tp M) (k : Nat) (hk : k < 33)
    (h : (mx_W m_J0_coder_7d493 d 0 [.retAddr (2 * k + 2)] [] M (fun o M1 => mx_sh M1 = mx_sh M ∧ mx_R M1 = mx_R M ∧ (∃ x2 : Int32, o = .inl (some (.int x2)) ∧ Q (.inl (some (.int ((Int32.ofNat (mx_tlen.getD k 0)) >>> (x2 &&& 31))))) M1)))) :
    mx_W m_J0_length_8abf5 (d + 1) 0 [.retAddr (2 * k + 2)] [] M Q := by
  refine mx_aload_n 0 (mx_da t_J0_length_8abf5 0 rfl) rfl rfl rfl rfl ?_
  refine mx_sfV hk sl_9 (mx_da t_J0_length_8abf5 1 rfl) rfl ?_
  refine mx_tlen9 hk (mx_da t_J0_length_8abf5 2 rfl) rfl ?_
  refine mx_aload_n 0 (mx_da t_J0_length_8abf5 3 rfl) rfl rfl rfl rfl ?_
  refine mx_callT yJ0_coder_7d493 m_J0_coder_7d493 [] hk mm_J0_coder_7d493 ml_RJ0_335 im_J0_coder_7d493 se_J0_coder_7d493 rfl rfl (Nat.le_of_ble_eq_true rfl) (mx_da t_J0_length_8abf5 4 rfl) rfl (Nat.le_of_ble_eq_true rfl) rfl ?_
  refine mx_mono h ?_
  intro o M1 ho
  obtain ⟨e1, e2, ho⟩ := ho
  obtain ⟨x2, rfl, h⟩ := ho
  refine ⟨e1, ?_⟩
  have T := tp_of e1 e2 T
  clear e1 e2
  show mx_W m_J0_length_8abf5 (d + 1) 9 [.retAddr (2 * k + 2)] [.int x2, .int (Int32.ofNat (mx_tlen.getD k 0))] M1 Q
  refine mx_ishr (mx_da t_J0_length_8abf5 5 rfl) rfl ?_
  exact mx_iret rfl (mx_da t_J0_length_8abf5 6 rfl) h
set_option maxHeartbeats 1000000 in
theorem x_J0_charAt_5068e_0 {d : Nat} {M : mx_M} {Q : mx_O → mx_M → Prop} (T : mx_Tp M) (k : Nat) (hk : k < 33) (v1 : Int32)
    (h : (mx_W m_J0_isLatin1_aae02 d 0 [.retAddr (2 * k + 2)] [] M (fun o M1 => mx_sh M1 = mx_sh M ∧ mx_R M1 = mx_R M ∧ (∃ x2 : Bool, o = .inl (some (.int (mx_b x2))) ∧ ((x2 = false → (mx_W m_J2_charAt_3b067 d 0 [.retAddr (2 * k + 3), .int v1] [] M1 (fun o M3 => mx_sh M3 = mx_sh M1 ∧ mx_R M3 = mx_R M1 ∧ (∃ x4 : Int32, o = .inl (some (.int x4)) ∧ (narrow .char (.int x4) = .int x4 ∧ Q (.inl (some (.int x4))) M3))))) ∧ (x2 = true → (mx_W m_J1_charAt_3b067 d 0 [.retAddr (2 * k + 3), .int v1] [] M1 (fun o M5 => mx_sh M5 = mx_sh M1 ∧ mx_R M5 = mx_R M1 ∧ (∃ x6 : Int32, o = .inl (some (.int x6)) ∧ (narrow .char (.int x6) = .int x6 ∧ Q (.inl (some (.int x6))) M5)))))))))) :
    mx_W m_J0_charAt_5068e (d + 1) 0 [.retAddr (2 * k + 2), .int v1] [] M Q := by
  refine mx_aload_n 0 (mx_da t_J0_charAt_5068e 0 rfl) rfl rfl rfl rfl ?_
  refine mx_callT yJ0_isLatin1_aae02 m_J0_isLatin1_aae02 [] hk mm_J0_isLatin1_aae02 ml_RJ0_492 im_J0_isLatin1_aae02 se_J0_isLatin1_aae02 rfl rfl (Nat.le_of_ble_eq_true rfl) (mx_da t_J0_charAt_5068e 1 rfl) rfl (Nat.le_of_ble_eq_true rfl) rfl ?_
  refine mx_mono h ?_
  intro o M1 ho
  obtain ⟨e1, e2, ho⟩ := ho
  obtain ⟨x2, rfl, h⟩ := ho
  refine ⟨e1, ?_⟩
  have T := tp_of e1 e2 T
  clear e1 e2
  show mx_W m_J0_charAt_5068e (d + 1) 4 [.retAddr (2 * k + 2), .int v1] [.int (mx_b x2)] M1 Q
  refine mx_if_eq 16 (mx_da t_J0_charAt_5068e 2 rfl) rfl rfl (fun g9 => ?_) (fun g9 => ?_)
  · have h := h.1 (mx_b0.mp g9)
    refine mx_aload_n 0 (mx_da t_J0_charAt_5068e 8 rfl) rfl rfl rfl rfl ?_
    refine mx_sfV hk sl_9 (mx_da t_J0_charAt_5068e 9 rfl) rfl ?_
    refine mx_iload_n 1 (mx_da t_J0_charAt_5068e 10 rfl) rfl rfl rfl ?_
    refine mx_callS yJ2_charAt_3b067 m_J2_charAt_3b067 [.retAddr (2 * k + 3), .int v1] mm_J2_charAt_3b067 ml_RJ0_498 st_J2_charAt_3b067 rfl (Nat.le_of_ble_eq_true rfl) (mx_da t_J0_charAt_5068e 11 rfl) rfl (Nat.le_of_ble_eq_true rfl) rfl ?_
    refine mx_mono h ?_
    intro o M3 ho
    obtain ⟨e1, e2, ho⟩ := ho
    obtain ⟨x4, rfl, h⟩ := ho
    refine ⟨e1, ?_⟩
    have T := tp_of e1 e2 T
    clear e1 e2
    show mx_W m_J0_charAt_5068e (d + 1) 24 [.retAddr (2 * k + 2), .int v1] [.int x4] M3 Q
    exact mx_zret rfl h.1 (mx_da t_J0_charAt_5068e 12 rfl) h.2
  · have h := h.2 (mx_bn.mp g9)
    refine mx_aload_n 0 (mx_da t_J0_charAt_5068e 3 rfl) rfl rfl rfl rfl ?_
    refine mx_sfV hk sl_9 (mx_da t_J0_charAt_5068e 4 rfl) rfl ?_
    refine mx_iload_n 1 (mx_da t_J0_charAt_5068e 5 rfl) rfl rfl rfl ?_
    refine mx_callS yJ1_charAt_3b067 m_J1_charAt_3b067 [.retAddr (2 * k + 3), .int v1] mm_J1_charAt_3b067 ml_RJ0_495 st_J1_charAt_3b067 rfl (Nat.le_of_ble_eq_true rfl) (mx_da t_J0_charAt_5068e 6 rfl) rfl (Nat.le_of_ble_eq_true rfl) rfl ?_
    refine mx_mono h ?_
    intro o M5 ho
    obtain ⟨e1, e2, ho⟩ := ho
    obtain ⟨x6, rfl, h⟩ := ho
    refine ⟨e1, ?_⟩
    have T := tp_of e1 e2 T
    clear e1 e2
    show mx_W m_J0_charAt_5068e (d + 1) 15 [.retAddr (2 * k + 2), .int v1] [.int x6] M5 Q
    exact mx_zret rfl h.1 (mx_da t_J0_charAt_5068e 7 rfl) h.2
set_option maxHeartbeats 1000000 in
theorem x_J0_coder_7d493_0 {d : Nat} {M : mx_M} {Q : mx_O → mx_M → Prop} (T : mx_Tp M) (k : Nat) (hk : k < 33)
    (h : (narrow .byte (.int 0) = .int 0 ∧ Q (.inl (some (.int 0))) M)) :
    mx_W m_J0_coder_7d493 d 0 [.retAddr (2 * k + 2)] [] M Q := by
  refine mx_gstC sl_38 (mx_da t_J0_coder_7d493 0 rfl) rfl ?_
  refine mx_if_eq 13 (mx_da t_J0_coder_7d493 1 rfl) rfl rfl (fun g9 => absurd g9 (by decide)) (fun g9 => ?_)
  refine mx_aload_n 0 (mx_da t_J0_coder_7d493 2 rfl) rfl rfl rfl rfl ?_
  refine mx_sfC hk sl_15 (mx_da t_J0_coder_7d493 3 rfl) rfl ?_
  refine mx_goto (n := 14) (mx_da t_J0_coder_7d493 4 rfl) rfl ?_
  exact mx_zret rfl h.1 (mx_da t_J0_coder_7d493 6 rfl) h.2
set_option maxHeartbeats 1000000 in
theorem x_J0_isLatin1_aae02_0 {d : Nat} {M : mx_M} {Q : mx_O → mx_M → Prop} (T : mx_Tp M) (k : Nat) (hk : k < 33)
    (h : Q (.inl (some (.int (mx_b true)))) M) :
    mx_W m_J0_isLatin1_aae02 d 0 [.retAddr (2 * k + 2)] [] M Q := by
  refine mx_gstC sl_38 (mx_da t_J0_isLatin1_aae02 0 rfl) rfl ?_
  refine mx_if_eq 17 (mx_da t_J0_isLatin1_aae02 1 rfl) rfl rfl (fun g9 => absurd g9 (by decide)) (fun g9 => ?_)
  refine mx_aload_n 0 (mx_da t_J0_isLatin1_aae02 2 rfl) rfl rfl rfl rfl ?_
  refine mx_sfC hk sl_15 (mx_da t_J0_isLatin1_aae02 3 rfl) rfl ?_
  refine mx_if_ne 17 (mx_da t_J0_isLatin1_aae02 4 rfl) rfl rfl (fun g9 => absurd g9 (by decide)) (fun g9 => ?_)
  refine mx_iconst (v := 1) (mx_da t_J0_isLatin1_aae02 5 rfl) rfl rfl ?_
  refine mx_goto (n := 18) (mx_da t_J0_isLatin1_aae02 6 rfl) rfl ?_
  exact mx_zret rfl rfl (mx_da t_J0_isLatin1_aae02 8 rfl) h
set_option maxHeartbeats 1000000 in
theorem x_J1_charAt_3b067_0 {d : Nat} {M : mx_M} {Q : mx_O → mx_M → Prop} (T : mx_Tp M) (k : Nat) (hk : k < 33) (v1 : Int32)
    (h : (mx_W m_J0_checkIndex_df160 d 0 [.int v1, .int (Int32.ofNat (mx_tlen.getD k 0))] [] M (fun o M1 => mx_sh M1 = mx_sh M ∧ mx_R M1 = mx_R M ∧ (o = .inl none ∧ (vp_in v1 (mx_tlen.getD k 0) ∧ (narrow .char (.int (((((mx_tbyt.getD k []).getD (v1.toNatClampNeg) 0) &&& 255).toUInt32 % 65536).toInt32)) = .int (((((mx_tbyt.getD k []).getD (v1.toNatClampNeg) 0) &&& 255).toUInt32 % 65536).toInt32) ∧ Q (.inl (some (.int (((((mx_tbyt.getD k []).getD (v1.toNatClampNeg) 0) &&& 255).toUInt32 % 65536).toInt32)))) M1)))))) :
    mx_W m_J1_charAt_3b067 (d + 1) 0 [.retAddr (2 * k + 3), .int v1] [] M Q := by
  refine mx_iload_n 1 (mx_da t_J1_charAt_3b067 0 rfl) rfl rfl rfl ?_
  refine mx_aload_n 0 (mx_da t_J1_charAt_3b067 1 rfl) rfl rfl rfl rfl ?_
  refine mx_tlen9 hk (mx_da t_J1_charAt_3b067 2 rfl) rfl ?_
  refine mx_callS yJ0_checkIndex_df160 m_J0_checkIndex_df160 [.int v1, .int (Int32.ofNat (mx_tlen.getD k 0))] mm_J0_checkIndex_df160 ml_RJ1_9 st_J0_checkIndex_df160 rfl (Nat.le_of_ble_eq_true rfl) (mx_da t_J1_charAt_3b067 3 rfl) rfl (Nat.le_of_ble_eq_true rfl) rfl ?_
  refine mx_mono h ?_
  intro o M1 ho
  obtain ⟨e1, e2, ho⟩ := ho
  obtain ⟨rfl, h⟩ := ho
  refine ⟨e1, ?_⟩
  have T := tp_of e1 e2 T
  clear e1 e2
  show mx_W m_J1_charAt_3b067 (d + 1) 6 [.retAddr (2 * k + 3), .int v1] [] M1 Q
  refine mx_aload_n 0 (mx_da t_J1_charAt_3b067 4 rfl) rfl rfl rfl rfl ?_
  refine mx_iload_n 1 (mx_da t_J1_charAt_3b067 5 rfl) rfl rfl rfl ?_
  refine mx_tbld hk h.1 (mx_da t_J1_charAt_3b067 6 rfl) rfl ?_
  have h := h.2
  refine mx_sipush (v := 255) (mx_da t_J1_charAt_3b067 7 rfl) rfl rfl ?_
  refine mx_iand (mx_da t_J1_charAt_3b067 8 rfl) rfl ?_
  refine mx_i2c (mx_da t_J1_charAt_3b067 9 rfl) rfl ?_
  exact mx_zret rfl h.1 (mx_da t_J1_charAt_3b067 10 rfl) h.2
set_option maxHeartbeats 1000000 in
theorem x_J3_checkIndex_8e157_0 {d : Nat} {M : mx_M} {Q : mx_O → mx_M → Prop} (T : mx_Tp M) (v0 : Int32) (v1 : Int32)
    (h : ((v0 < 0 → False) ∧ (¬ v0 < 0 → ((v0 < v1 → Q (.inl (some (.int v0))) M) ∧ (¬ v0 < v1 → False))))) :
    mx_W m_J3_checkIndex_8e157 (d + 1) 0 [.int v0, .int v1, .retAddr 0] [] M Q := by
  refine mx_iload_n 0 (mx_da t_J3_checkIndex_8e157 0 rfl) rfl rfl rfl ?_
  refine mx_if_lt 9 (mx_da t_J3_checkIndex_8e157 1 rfl) rfl rfl (fun g9 => ?_) (fun g9 => ?_)
  · have h := h.1 g9
    exact h.elim
  · have h := h.2 g9
    refine mx_iload_n 0 (mx_da t_J3_checkIndex_8e157 2 rfl) rfl rfl rfl ?_
    refine mx_iload_n 1 (mx_da t_J3_checkIndex_8e157 3 rfl) rfl rfl rfl ?_
    refine mx_icmp_lt 16 (mx_da t_J3_checkIndex_8e157 4 rfl) rfl rfl (fun g9 => ?_) (fun g9 => ?_)
    · have h := h.1 g9
      refine mx_iload_n 0 (mx_da t_J3_checkIndex_8e157 10 rfl) rfl rfl rfl ?_
      exact mx_iret rfl (mx_da t_J3_checkIndex_8e157 11 rfl) h
    · have h := h.2 g9
      exact h.elim
