/-! the constructors (by tools/mkinit.py) -/
abbrev nmT (k : Nat) (I : Nat → Nat → Int32) (J : Nat → Nat → Int64) (R : Nat → Nat → Nat) (a b : Nat) (sc : Nat × (Nat → Int32)) : mx_M := (mx_SH.take k, I, J, R, (a, b), sc)
theorem shp_at {M : mx_M} {k r : Nat} {s : mx_S} (h : mx_sh M = mx_SH.take k) (hr : r ≤ k) (e : mx_shp0 r = some s) : mx_shp M r = some s := by
  cases r with
  | zero => cases e
  | succ r =>
    show (mx_sh M)[r]? = some s
    rw [h, List.getElem?_take, if_pos (by omega)]
    exact e
theorem len_at {M : mx_M} {k : Nat} (h : mx_sh M = mx_SH.take k) (hk : k ≤ 98) : (mx_sh M).length = k := by
  rw [h, List.length_take]
  exact Nat.min_eq_left hk
theorem nm_new {k N a b a2 b2 : Nat} {s : mx_S} {I : Nat → Nat → Int32} {J : Nat → Nat → Int64} {R : Nat → Nat → Nat} {sc : Nat × (Nat → Int32)} (e : mx_SH[k]? = some s) (hk : k ≤ 98) (ha : a - 1 = a2) (hb : b - N = b2) : mx_newM (nmT k I J R a b sc) s N = nmT (k + 1) (mx_zr I (k + 1) 0) (mx_zr J (k + 1) 0) (mx_zr R (k + 1) 0) a2 b2 sc := by
  have h : (mx_sh (nmT k I J R a b sc)).length = k := len_at rfl hk
  unfold mx_newM
  rw [h]
  subst ha
  subst hb
  have t : mx_SH.take k ++ [s] = mx_SH.take (k + 1) := by rw [List.take_succ, e]; rfl
  show (mx_SH.take k ++ [s], _) = _
  rw [t]
def In_0 : Nat → Nat → Int32 := fun _ _ => 0
def Jn_0 : Nat → Nat → Int64 := fun _ _ => 0
def Rn_0 : Nat → Nat → Nat := fun _ _ => 0
theorem ioi_in : Cond.instanceMethod Lib.objectInit ∈ lw_tbl := tb_1 _ (List.mem_of_getElem? (i := 31) rfl)
theorem ioi_cd : Cond.code Lib.objectInit ⟨#[0xb1]⟩ 1 none ∈ lw_tbl := tb_1 _ (List.mem_of_getElem? (i := 32) rfl)
theorem icl_RL_8 : Cond.classLink RL 8 RX10 ∈ lw_tbl := tb_1 _ (List.mem_of_getElem? (i := 25) rfl)
theorem iin_RX10 : Cond.instantiable RX10 17 ∈ lw_tbl := tb_1 _ (List.mem_of_getElem? (i := 26) rfl)
theorem ini_RX10 : Cond.initialized RX10 ∈ lw_tbl := tb_1 _ (List.mem_of_getElem? (i := 1) rfl)
def In_1 : Nat → Nat → Int32 := mx_zr In_0 1 0
def Jn_1 : Nat → Nat → Int64 := mx_zr Jn_0 1 0
def Rn_1 : Nat → Nat → Nat := mx_zr Rn_0 1 0
theorem iml_RX10_1 : Cond.methodLink RX10 1 Lib.objectInit ∈ lw_tbl := tb_1 _ (List.mem_of_getElem? (i := 30) rfl)
theorem icl_RX10_7 : Cond.classLink RX10 7 RX4 ∈ lw_tbl := tb_1 _ (List.mem_of_getElem? (i := 33) rfl)
theorem iin_RX4 : Cond.instantiable RX4 5 ∈ lw_tbl := tb_1 _ (List.mem_of_getElem? (i := 34) rfl)
theorem ini_RX4 : Cond.initialized RX4 ∈ lw_tbl := tb_1 _ (List.mem_of_getElem? (i := 2) rfl)
def In_2 : Nat → Nat → Int32 := mx_zr In_1 2 0
def Jn_2 : Nat → Nat → Int64 := mx_zr Jn_1 2 0
def Rn_2 : Nat → Nat → Nat := mx_zr Rn_1 2 0
theorem iml_RX10_9 : Cond.methodLinkNest RX10 9 yX4_init "MeerDrawers" ∈ lw_tbl := tb_1 _ (List.mem_of_getElem? (i := 35) rfl)
theorem iml_RX4_3 : Cond.methodLink RX4 3 Lib.objectInit ∈ lw_tbl := tb_1 _ (List.mem_of_getElem? (i := 38) rfl)
theorem icl_RX4_9 : Cond.classLink RX4 9 RX8 ∈ lw_tbl := tb_1 _ (List.mem_of_getElem? (i := 39) rfl)
theorem iin_RX8 : Cond.instantiable RX8 7 ∈ lw_tbl := tb_1 _ (List.mem_of_getElem? (i := 40) rfl)
theorem ini_RX8 : Cond.initialized RX8 ∈ lw_tbl := tb_1 _ (List.mem_of_getElem? (i := 3) rfl)
def In_3 : Nat → Nat → Int32 := mx_zr In_2 3 0
def Jn_3 : Nat → Nat → Int64 := mx_zr Jn_2 3 0
def Rn_3 : Nat → Nat → Nat := mx_zr Rn_2 3 0
theorem iml_RX4_11 : Cond.methodLinkNest RX4 11 yX8_init "MeerDrawers" ∈ lw_tbl := tb_1 _ (List.mem_of_getElem? (i := 41) rfl)
theorem iml_RX8_3 : Cond.methodLink RX8 3 Lib.objectInit ∈ lw_tbl := tb_1 _ (List.mem_of_getElem? (i := 44) rfl)
theorem icl_RX8_9 : Cond.classLink RX8 9 RX6 ∈ lw_tbl := tb_1 _ (List.mem_of_getElem? (i := 45) rfl)
theorem iin_RX6 : Cond.instantiable RX6 2 ∈ lw_tbl := tb_1 _ (List.mem_of_getElem? (i := 46) rfl)
theorem ini_RX6 : Cond.initialized RX6 ∈ lw_tbl := tb_1 _ (List.mem_of_getElem? (i := 4) rfl)
def In_4 : Nat → Nat → Int32 := mx_zr In_3 4 0
def Jn_4 : Nat → Nat → Int64 := mx_zr Jn_3 4 0
def Rn_4 : Nat → Nat → Nat := mx_zr Rn_3 4 0
theorem iml_RX8_11 : Cond.methodLinkNest RX8 11 yX6_init "MeerDrawers" ∈ lw_tbl := tb_1 _ (List.mem_of_getElem? (i := 47) rfl)
theorem iml_RX6_3 : Cond.methodLink RX6 3 Lib.objectInit ∈ lw_tbl := tb_1 _ (List.mem_of_getElem? (i := 50) rfl)
theorem iac_byte : Cond.arrayClass .byte ∈ lw_tbl := tb_1 _ (List.mem_of_getElem? (i := 59) rfl)
def In_5 : Nat → Nat → Int32 := mx_zr In_4 5 0
def Jn_5 : Nat → Nat → Int64 := mx_zr Jn_4 5 0
def Rn_5 : Nat → Nat → Nat := mx_zr Rn_4 5 0
theorem ifl_RX6_9 : Cond.fieldLink RX6 9 "MeerDrawers$Tape" "bytes" "[B" ∈ lw_tbl := tb_1 _ (List.mem_of_getElem? (i := 51) rfl)
def Rn_6 : Nat → Nat → Nat := mx_up Rn_5 4 0 5
def In_6 : Nat → Nat → Int32 := mx_up In_5 4 1 0
set_option maxHeartbeats 4000000 in
theorem in_4 {d : Nat} {Q : mx_O → mx_M → Prop} (L : Nat) (xs : Nat → Int32) (k : Q (.inl none) (nmT 5 In_6 Jn_5 Rn_6 600123 7300367 (L, xs))) : mx_W m_X6_init (d + 2) 0 [.ref 4] [] (nmT 4 In_4 Jn_4 Rn_4 600124 7301067 (L, xs)) Q := by
  refine mx_aload_n 0 (mx_da t_X6_init 0 rfl) rfl rfl rfl rfl ?_
  refine mx_objInit iml_RX6_3 ioi_in ioi_cd (by decide) (mx_da t_X6_init 1 rfl) rfl ?_
  refine mx_aload_n 0 (mx_da t_X6_init 2 rfl) rfl rfl rfl rfl ?_
  refine mx_sipush (v := 700) (mx_da t_X6_init 3 rfl) rfl rfl ?_
  refine mx_newA (ty := .byte) 4 700 rfl (Or.inr (Or.inr (Or.inl rfl))) iac_byte (by decide) (by decide) (by decide) (show 1 ≤ 600124 by decide) (show 700 ≤ 7301067 by decide) (len_at rfl (by decide)) rfl rfl (mx_da t_X6_init 4 rfl) rfl ?_
  rw [nm_new (k := 4) (N := 700) (a := 600124) (b := 7301067) (a2 := 600123) (b2 := 7300367) rfl (by decide) rfl rfl]
  show mx_W _ _ 10 [.ref 4] [.ref 5, .ref 4] (nmT 5 In_5 Jn_5 Rn_5 600123 7300367 (L, xs)) _
  refine mx_putFR (ci := 6) (j := 0) _ rfl (by decide) ifl_RX6_9 rfl rfl rfl rfl (shp_at rfl (by decide) rfl) (by rw [len_at (k := 5) rfl (by decide)]; decide) (mx_da t_X6_init 5 rfl) rfl ?_
  show mx_W _ _ 13 [.ref 4] [] (nmT 5 In_5 Jn_5 Rn_6 600123 7300367 (L, xs)) _
  refine mx_aload_n 0 (mx_da t_X6_init 6 rfl) rfl rfl rfl rfl ?_
  refine mx_iconst (v := 0) (mx_da t_X6_init 7 rfl) rfl rfl ?_
  refine mx_putI fs_RX6_15 rfl (shp_at rfl (by decide) rfl) rfl rfl rfl (mx_da t_X6_init 8 rfl) rfl ?_
  show mx_W _ _ 18 [.ref 4] [] (nmT 5 In_6 Jn_5 Rn_6 600123 7300367 (L, xs)) _
  exact mx_vret rfl (mx_da t_X6_init 9 rfl) k
theorem ifl_RX8_12 : Cond.fieldLink RX8 12 "MeerDrawers$Tokens" "tape" "LMeerDrawers$Tape;" ∈ lw_tbl := tb_1 _ (List.mem_of_getElem? (i := 60) rfl)
def Rn_7 : Nat → Nat → Nat := mx_up Rn_6 3 0 4
def In_7 : Nat → Nat → Int32 := mx_up In_6 3 1 0
def In_8 : Nat → Nat → Int32 := mx_up In_7 3 2 0
def In_9 : Nat → Nat → Int32 := mx_up In_8 3 3 0
def In_10 : Nat → Nat → Int32 := mx_up In_9 3 4 0
def In_11 : Nat → Nat → Int32 := mx_up In_10 3 5 0
def Jn_6 : Nat → Nat → Int64 := mx_up Jn_5 3 6 0
set_option maxHeartbeats 4000000 in
theorem in_3 {d : Nat} {Q : mx_O → mx_M → Prop} (L : Nat) (xs : Nat → Int32) (k : Q (.inl none) (nmT 5 In_11 Jn_6 Rn_7 600123 7300367 (L, xs))) : mx_W m_X8_init (d + 3) 0 [.ref 3] [] (nmT 3 In_3 Jn_3 Rn_3 600125 7301069 (L, xs)) Q := by
  refine mx_aload_n 0 (mx_da t_X8_init 0 rfl) rfl rfl rfl rfl ?_
  refine mx_objInit iml_RX8_3 ioi_in ioi_cd (by decide) (mx_da t_X8_init 1 rfl) rfl ?_
  refine mx_aload_n 0 (mx_da t_X8_init 2 rfl) rfl rfl rfl rfl ?_
  refine mx_new (ci := 6) _ 3 rfl icl_RX8_9 iin_RX6 ini_RX6 (show 1 ≤ 600125 by decide) (show 2 ≤ 7301069 by decide) (len_at rfl (by decide)) rfl rfl (mx_da t_X8_init 3 rfl) rfl ?_
  rw [nm_new (k := 3) (N := 2) (a := 600125) (b := 7301069) (a2 := 600124) (b2 := 7301067) rfl (by decide) rfl rfl]
  show mx_W _ _ 8 [.ref 3] [.ref 4, .ref 3] (nmT 4 In_4 Jn_4 Rn_4 600124 7301067 (L, xs)) _
  refine mx_dup (mx_da t_X8_init 4 rfl) rfl rfl ?_
  refine mx_callI yX6_init m_X6_init 4 mm_X6_init (Or.inr ⟨"MeerDrawers", iml_RX8_11⟩) im_X6_init rfl rfl rfl (by decide) (mx_da t_X8_init 5 rfl) rfl (by decide) (len_at rfl (by decide)) rfl rfl (in_4 L xs ⟨by rw [len_at (k := 5) rfl (by decide)]; decide, ?_⟩)
  show mx_W _ _ 12 [.ref 3] [.ref 4, .ref 3] (nmT 5 In_6 Jn_5 Rn_6 600123 7300367 (L, xs)) _
  refine mx_putFR (ci := 8) (j := 0) _ rfl (by decide) ifl_RX8_12 rfl rfl rfl rfl (shp_at rfl (by decide) rfl) (by rw [len_at (k := 5) rfl (by decide)]; decide) (mx_da t_X8_init 6 rfl) rfl ?_
  show mx_W _ _ 15 [.ref 3] [] (nmT 5 In_6 Jn_5 Rn_7 600123 7300367 (L, xs)) _
  refine mx_aload_n 0 (mx_da t_X8_init 7 rfl) rfl rfl rfl rfl ?_
  refine mx_iconst (v := 0) (mx_da t_X8_init 8 rfl) rfl rfl ?_
  refine mx_putI fs_RX8_18 rfl (shp_at rfl (by decide) rfl) rfl rfl rfl (mx_da t_X8_init 9 rfl) rfl ?_
  show mx_W _ _ 20 [.ref 3] [] (nmT 5 In_7 Jn_5 Rn_7 600123 7300367 (L, xs)) _
  refine mx_aload_n 0 (mx_da t_X8_init 10 rfl) rfl rfl rfl rfl ?_
  refine mx_iconst (v := 0) (mx_da t_X8_init 11 rfl) rfl rfl ?_
  refine mx_putI fs_RX8_22 rfl (shp_at rfl (by decide) rfl) rfl rfl rfl (mx_da t_X8_init 12 rfl) rfl ?_
  show mx_W _ _ 25 [.ref 3] [] (nmT 5 In_8 Jn_5 Rn_7 600123 7300367 (L, xs)) _
  refine mx_aload_n 0 (mx_da t_X8_init 13 rfl) rfl rfl rfl rfl ?_
  refine mx_iconst (v := 0) (mx_da t_X8_init 14 rfl) rfl rfl ?_
  refine mx_putI fs_RX8_25 rfl (shp_at rfl (by decide) rfl) rfl rfl rfl (mx_da t_X8_init 15 rfl) rfl ?_
  show mx_W _ _ 30 [.ref 3] [] (nmT 5 In_9 Jn_5 Rn_7 600123 7300367 (L, xs)) _
  refine mx_aload_n 0 (mx_da t_X8_init 16 rfl) rfl rfl rfl rfl ?_
  refine mx_iconst (v := 0) (mx_da t_X8_init 17 rfl) rfl rfl ?_
  refine mx_putI fs_RX8_28 rfl (shp_at rfl (by decide) rfl) rfl rfl rfl (mx_da t_X8_init 18 rfl) rfl ?_
  show mx_W _ _ 35 [.ref 3] [] (nmT 5 In_10 Jn_5 Rn_7 600123 7300367 (L, xs)) _
  refine mx_aload_n 0 (mx_da t_X8_init 19 rfl) rfl rfl rfl rfl ?_
  refine mx_iconst (v := 0) (mx_da t_X8_init 20 rfl) rfl rfl ?_
  refine mx_putI fs_RX8_31 rfl (shp_at rfl (by decide) rfl) rfl rfl rfl (mx_da t_X8_init 21 rfl) rfl ?_
  show mx_W _ _ 40 [.ref 3] [] (nmT 5 In_11 Jn_5 Rn_7 600123 7300367 (L, xs)) _
  refine mx_aload_n 0 (mx_da t_X8_init 22 rfl) rfl rfl rfl rfl ?_
  refine mx_lconst (v := 0) (mx_da t_X8_init 23 rfl) rfl rfl ?_
  refine mx_putJ fs_RX8_34 rfl (shp_at rfl (by decide) rfl) rfl (mx_da t_X8_init 24 rfl) rfl ?_
  show mx_W _ _ 45 [.ref 3] [] (nmT 5 In_11 Jn_6 Rn_7 600123 7300367 (L, xs)) _
  exact mx_vret rfl (mx_da t_X8_init 25 rfl) k
theorem ifl_RX4_12 : Cond.fieldLink RX4 12 "MeerDrawers$Parser" "tokens" "LMeerDrawers$Tokens;" ∈ lw_tbl := tb_1 _ (List.mem_of_getElem? (i := 202) rfl)
def Rn_8 : Nat → Nat → Nat := mx_up Rn_7 2 0 3
theorem icl_RX4_18 : Cond.classLink RX4 18 RX7 ∈ lw_tbl := tb_1 _ (List.mem_of_getElem? (i := 88) rfl)
theorem iin_RX7 : Cond.instantiable RX7 6 ∈ lw_tbl := tb_1 _ (List.mem_of_getElem? (i := 89) rfl)
theorem ini_RX7 : Cond.initialized RX7 ∈ lw_tbl := tb_1 _ (List.mem_of_getElem? (i := 5) rfl)
def In_12 : Nat → Nat → Int32 := mx_zr In_11 6 0
def Jn_7 : Nat → Nat → Int64 := mx_zr Jn_6 6 0
def Rn_9 : Nat → Nat → Nat := mx_zr Rn_8 6 0
theorem iml_RX4_20 : Cond.methodLinkNest RX4 20 yX7_init "MeerDrawers" ∈ lw_tbl := tb_1 _ (List.mem_of_getElem? (i := 90) rfl)
theorem iml_RX7_3 : Cond.methodLink RX7 3 Lib.objectInit ∈ lw_tbl := tb_1 _ (List.mem_of_getElem? (i := 93) rfl)
theorem iac_int : Cond.arrayClass .int ∈ lw_tbl := tb_1 _ (List.mem_of_getElem? (i := 116) rfl)
def In_13 : Nat → Nat → Int32 := mx_zr In_12 7 0
def Jn_8 : Nat → Nat → Int64 := mx_zr Jn_7 7 0
def Rn_10 : Nat → Nat → Nat := mx_zr Rn_9 7 0
theorem ifl_RX7_9 : Cond.fieldLink RX7 9 "MeerDrawers$Ties" "steps" "[I" ∈ lw_tbl := tb_1 _ (List.mem_of_getElem? (i := 94) rfl)
def Rn_11 : Nat → Nat → Nat := mx_up Rn_10 6 0 7
def In_14 : Nat → Nat → Int32 := mx_zr In_13 8 0
def Jn_9 : Nat → Nat → Int64 := mx_zr Jn_8 8 0
def Rn_12 : Nat → Nat → Nat := mx_zr Rn_11 8 0
theorem ifl_RX7_15 : Cond.fieldLink RX7 15 "MeerDrawers$Ties" "from" "[I" ∈ lw_tbl := tb_1 _ (List.mem_of_getElem? (i := 95) rfl)
def Rn_13 : Nat → Nat → Nat := mx_up Rn_12 6 1 8
def In_15 : Nat → Nat → Int32 := mx_zr In_14 9 0
def Jn_10 : Nat → Nat → Int64 := mx_zr Jn_9 9 0
def Rn_14 : Nat → Nat → Nat := mx_zr Rn_13 9 0
theorem ifl_RX7_18 : Cond.fieldLink RX7 18 "MeerDrawers$Ties" "to" "[I" ∈ lw_tbl := tb_1 _ (List.mem_of_getElem? (i := 97) rfl)
def Rn_15 : Nat → Nat → Nat := mx_up Rn_14 6 2 9
def In_16 : Nat → Nat → Int32 := mx_zr In_15 10 0
def Jn_11 : Nat → Nat → Int64 := mx_zr Jn_10 10 0
def Rn_16 : Nat → Nat → Nat := mx_zr Rn_15 10 0
theorem ifl_RX7_21 : Cond.fieldLink RX7 21 "MeerDrawers$Ties" "stack" "[I" ∈ lw_tbl := tb_1 _ (List.mem_of_getElem? (i := 99) rfl)
def Rn_17 : Nat → Nat → Nat := mx_up Rn_16 6 3 10
def In_17 : Nat → Nat → Int32 := mx_up In_16 6 4 0
def In_18 : Nat → Nat → Int32 := mx_up In_17 6 5 0
set_option maxHeartbeats 4000000 in
theorem in_6 {d : Nat} {Q : mx_O → mx_M → Prop} (L : Nat) (xs : Nat → Int32) (k : Q (.inl none) (nmT 10 In_18 Jn_11 Rn_17 600118 7299589 (L, xs))) : mx_W m_X7_init (d + 3) 0 [.ref 6] [] (nmT 6 In_12 Jn_7 Rn_9 600122 7300361 (L, xs)) Q := by
  refine mx_aload_n 0 (mx_da t_X7_init 0 rfl) rfl rfl rfl rfl ?_
  refine mx_objInit iml_RX7_3 ioi_in ioi_cd (by decide) (mx_da t_X7_init 1 rfl) rfl ?_
  refine mx_aload_n 0 (mx_da t_X7_init 2 rfl) rfl rfl rfl rfl ?_
  refine mx_sipush (v := 700) (mx_da t_X7_init 3 rfl) rfl rfl ?_
  refine mx_newA (ty := .int) 6 700 rfl (Or.inl rfl) iac_int (by decide) (by decide) (by decide) (show 1 ≤ 600122 by decide) (show 700 ≤ 7300361 by decide) (len_at rfl (by decide)) rfl rfl (mx_da t_X7_init 4 rfl) rfl ?_
  rw [nm_new (k := 6) (N := 700) (a := 600122) (b := 7300361) (a2 := 600121) (b2 := 7299661) rfl (by decide) rfl rfl]
  show mx_W _ _ 10 [.ref 6] [.ref 7, .ref 6] (nmT 7 In_13 Jn_8 Rn_10 600121 7299661 (L, xs)) _
  refine mx_putFR (ci := 7) (j := 0) _ rfl (by decide) ifl_RX7_9 rfl rfl rfl rfl (shp_at rfl (by decide) rfl) (by rw [len_at (k := 7) rfl (by decide)]; decide) (mx_da t_X7_init 5 rfl) rfl ?_
  show mx_W _ _ 13 [.ref 6] [] (nmT 7 In_13 Jn_8 Rn_11 600121 7299661 (L, xs)) _
  refine mx_aload_n 0 (mx_da t_X7_init 6 rfl) rfl rfl rfl rfl ?_
  refine mx_iconst (v := 4) (mx_da t_X7_init 7 rfl) rfl rfl ?_
  refine mx_newA (ty := .int) 7 4 rfl (Or.inl rfl) iac_int (by decide) (by decide) (by decide) (show 1 ≤ 600121 by decide) (show 4 ≤ 7299661 by decide) (len_at rfl (by decide)) rfl rfl (mx_da t_X7_init 8 rfl) rfl ?_
  rw [nm_new (k := 7) (N := 4) (a := 600121) (b := 7299661) (a2 := 600120) (b2 := 7299657) rfl (by decide) rfl rfl]
  show mx_W _ _ 17 [.ref 6] [.ref 8, .ref 6] (nmT 8 In_14 Jn_9 Rn_12 600120 7299657 (L, xs)) _
  refine mx_putFR (ci := 7) (j := 1) _ rfl (by decide) ifl_RX7_15 rfl rfl rfl rfl (shp_at rfl (by decide) rfl) (by rw [len_at (k := 8) rfl (by decide)]; decide) (mx_da t_X7_init 9 rfl) rfl ?_
  show mx_W _ _ 20 [.ref 6] [] (nmT 8 In_14 Jn_9 Rn_13 600120 7299657 (L, xs)) _
  refine mx_aload_n 0 (mx_da t_X7_init 10 rfl) rfl rfl rfl rfl ?_
  refine mx_iconst (v := 4) (mx_da t_X7_init 11 rfl) rfl rfl ?_
  refine mx_newA (ty := .int) 8 4 rfl (Or.inl rfl) iac_int (by decide) (by decide) (by decide) (show 1 ≤ 600120 by decide) (show 4 ≤ 7299657 by decide) (len_at rfl (by decide)) rfl rfl (mx_da t_X7_init 12 rfl) rfl ?_
  rw [nm_new (k := 8) (N := 4) (a := 600120) (b := 7299657) (a2 := 600119) (b2 := 7299653) rfl (by decide) rfl rfl]
  show mx_W _ _ 24 [.ref 6] [.ref 9, .ref 6] (nmT 9 In_15 Jn_10 Rn_14 600119 7299653 (L, xs)) _
  refine mx_putFR (ci := 7) (j := 2) _ rfl (by decide) ifl_RX7_18 rfl rfl rfl rfl (shp_at rfl (by decide) rfl) (by rw [len_at (k := 9) rfl (by decide)]; decide) (mx_da t_X7_init 13 rfl) rfl ?_
  show mx_W _ _ 27 [.ref 6] [] (nmT 9 In_15 Jn_10 Rn_15 600119 7299653 (L, xs)) _
  refine mx_aload_n 0 (mx_da t_X7_init 14 rfl) rfl rfl rfl rfl ?_
  refine mx_bipush (v := 64) (mx_da t_X7_init 15 rfl) rfl rfl ?_
  refine mx_newA (ty := .int) 9 64 rfl (Or.inl rfl) iac_int (by decide) (by decide) (by decide) (show 1 ≤ 600119 by decide) (show 64 ≤ 7299653 by decide) (len_at rfl (by decide)) rfl rfl (mx_da t_X7_init 16 rfl) rfl ?_
  rw [nm_new (k := 9) (N := 64) (a := 600119) (b := 7299653) (a2 := 600118) (b2 := 7299589) rfl (by decide) rfl rfl]
  show mx_W _ _ 32 [.ref 6] [.ref 10, .ref 6] (nmT 10 In_16 Jn_11 Rn_16 600118 7299589 (L, xs)) _
  refine mx_putFR (ci := 7) (j := 3) _ rfl (by decide) ifl_RX7_21 rfl rfl rfl rfl (shp_at rfl (by decide) rfl) (by rw [len_at (k := 10) rfl (by decide)]; decide) (mx_da t_X7_init 17 rfl) rfl ?_
  show mx_W _ _ 35 [.ref 6] [] (nmT 10 In_16 Jn_11 Rn_17 600118 7299589 (L, xs)) _
  refine mx_aload_n 0 (mx_da t_X7_init 18 rfl) rfl rfl rfl rfl ?_
  refine mx_iconst (v := 0) (mx_da t_X7_init 19 rfl) rfl rfl ?_
  refine mx_putI fs_RX7_24 rfl (shp_at rfl (by decide) rfl) rfl rfl rfl (mx_da t_X7_init 20 rfl) rfl ?_
  show mx_W _ _ 40 [.ref 6] [] (nmT 10 In_17 Jn_11 Rn_17 600118 7299589 (L, xs)) _
  refine mx_aload_n 0 (mx_da t_X7_init 21 rfl) rfl rfl rfl rfl ?_
  refine mx_iconst (v := 0) (mx_da t_X7_init 22 rfl) rfl rfl ?_
  refine mx_putI fs_RX7_28 rfl (shp_at rfl (by decide) rfl) rfl rfl rfl (mx_da t_X7_init 23 rfl) rfl ?_
  show mx_W _ _ 45 [.ref 6] [] (nmT 10 In_18 Jn_11 Rn_17 600118 7299589 (L, xs)) _
  exact mx_vret rfl (mx_da t_X7_init 24 rfl) k
theorem ifl_RX4_21 : Cond.fieldLink RX4 21 "MeerDrawers$Parser" "ties" "LMeerDrawers$Ties;" ∈ lw_tbl := tb_1 _ (List.mem_of_getElem? (i := 204) rfl)
def Rn_18 : Nat → Nat → Nat := mx_up Rn_17 2 1 6
theorem icl_RX4_25 : Cond.classLink RX4 25 RX1 ∈ lw_tbl := tb_1 _ (List.mem_of_getElem? (i := 117) rfl)
theorem iin_RX1 : Cond.instantiable RX1 14 ∈ lw_tbl := tb_1 _ (List.mem_of_getElem? (i := 118) rfl)
theorem ini_RX1 : Cond.initialized RX1 ∈ lw_tbl := tb_1 _ (List.mem_of_getElem? (i := 6) rfl)
def In_19 : Nat → Nat → Int32 := mx_zr In_18 11 0
def Jn_12 : Nat → Nat → Int64 := mx_zr Jn_11 11 0
def Rn_19 : Nat → Nat → Nat := mx_zr Rn_18 11 0
theorem iml_RX4_27 : Cond.methodLinkNest RX4 27 yX1_init "MeerDrawers" ∈ lw_tbl := tb_1 _ (List.mem_of_getElem? (i := 119) rfl)
theorem iml_RX1_3 : Cond.methodLink RX1 3 Lib.objectInit ∈ lw_tbl := tb_1 _ (List.mem_of_getElem? (i := 122) rfl)
def In_20 : Nat → Nat → Int32 := mx_zr In_19 12 0
def Jn_13 : Nat → Nat → Int64 := mx_zr Jn_12 12 0
def Rn_20 : Nat → Nat → Nat := mx_zr Rn_19 12 0
theorem ifl_RX1_9 : Cond.fieldLink RX1 9 "MeerDrawers$Catalogue" "year" "[I" ∈ lw_tbl := tb_1 _ (List.mem_of_getElem? (i := 123) rfl)
def Rn_21 : Nat → Nat → Nat := mx_up Rn_20 11 0 12
def In_21 : Nat → Nat → Int32 := mx_zr In_20 13 0
def Jn_14 : Nat → Nat → Int64 := mx_zr Jn_13 13 0
def Rn_22 : Nat → Nat → Nat := mx_zr Rn_21 13 0
theorem ifl_RX1_15 : Cond.fieldLink RX1 15 "MeerDrawers$Catalogue" "words" "[I" ∈ lw_tbl := tb_1 _ (List.mem_of_getElem? (i := 127) rfl)
def Rn_23 : Nat → Nat → Nat := mx_up Rn_22 11 1 13
def In_22 : Nat → Nat → Int32 := mx_zr In_21 14 0
def Jn_15 : Nat → Nat → Int64 := mx_zr Jn_14 14 0
def Rn_24 : Nat → Nat → Nat := mx_zr Rn_23 14 0
theorem ifl_RX1_18 : Cond.fieldLink RX1 18 "MeerDrawers$Catalogue" "letters" "[I" ∈ lw_tbl := tb_1 _ (List.mem_of_getElem? (i := 131) rfl)
def Rn_25 : Nat → Nat → Nat := mx_up Rn_24 11 2 14
theorem iac_long : Cond.arrayClass .long ∈ lw_tbl := tb_1 _ (List.mem_of_getElem? (i := 200) rfl)
def In_23 : Nat → Nat → Int32 := mx_zr In_22 15 0
def Jn_16 : Nat → Nat → Int64 := mx_zr Jn_15 15 0
def Rn_26 : Nat → Nat → Nat := mx_zr Rn_25 15 0
theorem ifl_RX1_21 : Cond.fieldLink RX1 21 "MeerDrawers$Catalogue" "heading" "[J" ∈ lw_tbl := tb_1 _ (List.mem_of_getElem? (i := 134) rfl)
def Rn_27 : Nat → Nat → Nat := mx_up Rn_26 11 3 15
def In_24 : Nat → Nat → Int32 := mx_zr In_23 16 0
def Jn_17 : Nat → Nat → Int64 := mx_zr Jn_16 16 0
def Rn_28 : Nat → Nat → Nat := mx_zr Rn_27 16 0
theorem ifl_RX1_25 : Cond.fieldLink RX1 25 "MeerDrawers$Catalogue" "rules" "[I" ∈ lw_tbl := tb_1 _ (List.mem_of_getElem? (i := 136) rfl)
def Rn_29 : Nat → Nat → Nat := mx_up Rn_28 11 4 16
def In_25 : Nat → Nat → Int32 := mx_zr In_24 17 0
def Jn_18 : Nat → Nat → Int64 := mx_zr Jn_17 17 0
def Rn_30 : Nat → Nat → Nat := mx_zr Rn_29 17 0
theorem ifl_RX1_28 : Cond.fieldLink RX1 28 "MeerDrawers$Catalogue" "ruleKind" "[I" ∈ lw_tbl := tb_1 _ (List.mem_of_getElem? (i := 140) rfl)
def Rn_31 : Nat → Nat → Nat := mx_up Rn_30 11 5 17
def In_26 : Nat → Nat → Int32 := mx_zr In_25 18 0
def Jn_19 : Nat → Nat → Int64 := mx_zr Jn_18 18 0
def Rn_32 : Nat → Nat → Nat := mx_zr Rn_31 18 0
theorem ifl_RX1_31 : Cond.fieldLink RX1 31 "MeerDrawers$Catalogue" "ruleFrom" "[J" ∈ lw_tbl := tb_1 _ (List.mem_of_getElem? (i := 142) rfl)
def Rn_33 : Nat → Nat → Nat := mx_up Rn_32 11 6 18
def In_27 : Nat → Nat → Int32 := mx_zr In_26 19 0
def Jn_20 : Nat → Nat → Int64 := mx_zr Jn_19 19 0
def Rn_34 : Nat → Nat → Nat := mx_zr Rn_33 19 0
theorem ifl_RX1_34 : Cond.fieldLink RX1 34 "MeerDrawers$Catalogue" "ruleTo" "[J" ∈ lw_tbl := tb_1 _ (List.mem_of_getElem? (i := 144) rfl)
def Rn_35 : Nat → Nat → Nat := mx_up Rn_34 11 7 19
theorem iac_boolean : Cond.arrayClass .boolean ∈ lw_tbl := tb_1 _ (List.mem_of_getElem? (i := 201) rfl)
def In_28 : Nat → Nat → Int32 := mx_zr In_27 20 0
def Jn_21 : Nat → Nat → Int64 := mx_zr Jn_20 20 0
def Rn_36 : Nat → Nat → Nat := mx_zr Rn_35 20 0
theorem ifl_RX1_37 : Cond.fieldLink RX1 37 "MeerDrawers$Catalogue" "turns" "[Z" ∈ lw_tbl := tb_1 _ (List.mem_of_getElem? (i := 146) rfl)
def Rn_37 : Nat → Nat → Nat := mx_up Rn_36 11 8 20
def In_29 : Nat → Nat → Int32 := mx_zr In_28 21 0
def Jn_22 : Nat → Nat → Int64 := mx_zr Jn_21 21 0
def Rn_38 : Nat → Nat → Nat := mx_zr Rn_37 21 0
theorem ifl_RX1_41 : Cond.fieldLink RX1 41 "MeerDrawers$Catalogue" "joins" "[Z" ∈ lw_tbl := tb_1 _ (List.mem_of_getElem? (i := 150) rfl)
def Rn_39 : Nat → Nat → Nat := mx_up Rn_38 11 9 21
def In_30 : Nat → Nat → Int32 := mx_zr In_29 22 0
def Jn_23 : Nat → Nat → Int64 := mx_zr Jn_22 22 0
def Rn_40 : Nat → Nat → Nat := mx_zr Rn_39 22 0
theorem ifl_RX1_44 : Cond.fieldLink RX1 44 "MeerDrawers$Catalogue" "tied" "[Z" ∈ lw_tbl := tb_1 _ (List.mem_of_getElem? (i := 154) rfl)
def Rn_41 : Nat → Nat → Nat := mx_up Rn_40 11 10 22
def In_31 : Nat → Nat → Int32 := mx_zr In_30 23 0
def Jn_24 : Nat → Nat → Int64 := mx_zr Jn_23 23 0
def Rn_42 : Nat → Nat → Nat := mx_zr Rn_41 23 0
theorem ifl_RX1_47 : Cond.fieldLink RX1 47 "MeerDrawers$Catalogue" "tie" "[I" ∈ lw_tbl := tb_1 _ (List.mem_of_getElem? (i := 159) rfl)
def Rn_43 : Nat → Nat → Nat := mx_up Rn_42 11 11 23
def In_32 : Nat → Nat → Int32 := mx_up In_31 11 12 0
def In_33 : Nat → Nat → Int32 := mx_up In_32 11 13 0
set_option maxHeartbeats 4000000 in
theorem in_11 {d : Nat} {Q : mx_O → mx_M → Prop} (L : Nat) (xs : Nat → Int32) (k : Q (.inl none) (nmT 23 In_33 Jn_24 Rn_43 600105 7299353 (L, xs))) : mx_W m_X1_init (d + 3) 0 [.ref 11] [] (nmT 11 In_19 Jn_12 Rn_19 600117 7299575 (L, xs)) Q := by
  refine mx_aload_n 0 (mx_da t_X1_init 0 rfl) rfl rfl rfl rfl ?_
  refine mx_objInit iml_RX1_3 ioi_in ioi_cd (by decide) (mx_da t_X1_init 1 rfl) rfl ?_
  refine mx_aload_n 0 (mx_da t_X1_init 2 rfl) rfl rfl rfl rfl ?_
  refine mx_bipush (v := 10) (mx_da t_X1_init 3 rfl) rfl rfl ?_
  refine mx_newA (ty := .int) 11 10 rfl (Or.inl rfl) iac_int (by decide) (by decide) (by decide) (show 1 ≤ 600117 by decide) (show 10 ≤ 7299575 by decide) (len_at rfl (by decide)) rfl rfl (mx_da t_X1_init 4 rfl) rfl ?_
  rw [nm_new (k := 11) (N := 10) (a := 600117) (b := 7299575) (a2 := 600116) (b2 := 7299565) rfl (by decide) rfl rfl]
  show mx_W _ _ 9 [.ref 11] [.ref 12, .ref 11] (nmT 12 In_20 Jn_13 Rn_20 600116 7299565 (L, xs)) _
  refine mx_putFR (ci := 1) (j := 0) _ rfl (by decide) ifl_RX1_9 rfl rfl rfl rfl (shp_at rfl (by decide) rfl) (by rw [len_at (k := 12) rfl (by decide)]; decide) (mx_da t_X1_init 5 rfl) rfl ?_
  show mx_W _ _ 12 [.ref 11] [] (nmT 12 In_20 Jn_13 Rn_21 600116 7299565 (L, xs)) _
  refine mx_aload_n 0 (mx_da t_X1_init 6 rfl) rfl rfl rfl rfl ?_
  refine mx_bipush (v := 10) (mx_da t_X1_init 7 rfl) rfl rfl ?_
  refine mx_newA (ty := .int) 12 10 rfl (Or.inl rfl) iac_int (by decide) (by decide) (by decide) (show 1 ≤ 600116 by decide) (show 10 ≤ 7299565 by decide) (len_at rfl (by decide)) rfl rfl (mx_da t_X1_init 8 rfl) rfl ?_
  rw [nm_new (k := 12) (N := 10) (a := 600116) (b := 7299565) (a2 := 600115) (b2 := 7299555) rfl (by decide) rfl rfl]
  show mx_W _ _ 17 [.ref 11] [.ref 13, .ref 11] (nmT 13 In_21 Jn_14 Rn_22 600115 7299555 (L, xs)) _
  refine mx_putFR (ci := 1) (j := 1) _ rfl (by decide) ifl_RX1_15 rfl rfl rfl rfl (shp_at rfl (by decide) rfl) (by rw [len_at (k := 13) rfl (by decide)]; decide) (mx_da t_X1_init 9 rfl) rfl ?_
  show mx_W _ _ 20 [.ref 11] [] (nmT 13 In_21 Jn_14 Rn_23 600115 7299555 (L, xs)) _
  refine mx_aload_n 0 (mx_da t_X1_init 10 rfl) rfl rfl rfl rfl ?_
  refine mx_bipush (v := 10) (mx_da t_X1_init 11 rfl) rfl rfl ?_
  refine mx_newA (ty := .int) 13 10 rfl (Or.inl rfl) iac_int (by decide) (by decide) (by decide) (show 1 ≤ 600115 by decide) (show 10 ≤ 7299555 by decide) (len_at rfl (by decide)) rfl rfl (mx_da t_X1_init 12 rfl) rfl ?_
  rw [nm_new (k := 13) (N := 10) (a := 600115) (b := 7299555) (a2 := 600114) (b2 := 7299545) rfl (by decide) rfl rfl]
  show mx_W _ _ 25 [.ref 11] [.ref 14, .ref 11] (nmT 14 In_22 Jn_15 Rn_24 600114 7299545 (L, xs)) _
  refine mx_putFR (ci := 1) (j := 2) _ rfl (by decide) ifl_RX1_18 rfl rfl rfl rfl (shp_at rfl (by decide) rfl) (by rw [len_at (k := 14) rfl (by decide)]; decide) (mx_da t_X1_init 13 rfl) rfl ?_
  show mx_W _ _ 28 [.ref 11] [] (nmT 14 In_22 Jn_15 Rn_25 600114 7299545 (L, xs)) _
  refine mx_aload_n 0 (mx_da t_X1_init 14 rfl) rfl rfl rfl rfl ?_
  refine mx_bipush (v := 40) (mx_da t_X1_init 15 rfl) rfl rfl ?_
  refine mx_newA (ty := .long) 14 40 rfl (Or.inr (Or.inl rfl)) iac_long (by decide) (by decide) (by decide) (show 1 ≤ 600114 by decide) (show 40 ≤ 7299545 by decide) (len_at rfl (by decide)) rfl rfl (mx_da t_X1_init 16 rfl) rfl ?_
  rw [nm_new (k := 14) (N := 40) (a := 600114) (b := 7299545) (a2 := 600113) (b2 := 7299505) rfl (by decide) rfl rfl]
  show mx_W _ _ 33 [.ref 11] [.ref 15, .ref 11] (nmT 15 In_23 Jn_16 Rn_26 600113 7299505 (L, xs)) _
  refine mx_putFR (ci := 1) (j := 3) _ rfl (by decide) ifl_RX1_21 rfl rfl rfl rfl (shp_at rfl (by decide) rfl) (by rw [len_at (k := 15) rfl (by decide)]; decide) (mx_da t_X1_init 17 rfl) rfl ?_
  show mx_W _ _ 36 [.ref 11] [] (nmT 15 In_23 Jn_16 Rn_27 600113 7299505 (L, xs)) _
  refine mx_aload_n 0 (mx_da t_X1_init 18 rfl) rfl rfl rfl rfl ?_
  refine mx_iconst (v := 4) (mx_da t_X1_init 19 rfl) rfl rfl ?_
  refine mx_newA (ty := .int) 15 4 rfl (Or.inl rfl) iac_int (by decide) (by decide) (by decide) (show 1 ≤ 600113 by decide) (show 4 ≤ 7299505 by decide) (len_at rfl (by decide)) rfl rfl (mx_da t_X1_init 20 rfl) rfl ?_
  rw [nm_new (k := 15) (N := 4) (a := 600113) (b := 7299505) (a2 := 600112) (b2 := 7299501) rfl (by decide) rfl rfl]
  show mx_W _ _ 40 [.ref 11] [.ref 16, .ref 11] (nmT 16 In_24 Jn_17 Rn_28 600112 7299501 (L, xs)) _
  refine mx_putFR (ci := 1) (j := 4) _ rfl (by decide) ifl_RX1_25 rfl rfl rfl rfl (shp_at rfl (by decide) rfl) (by rw [len_at (k := 16) rfl (by decide)]; decide) (mx_da t_X1_init 21 rfl) rfl ?_
  show mx_W _ _ 43 [.ref 11] [] (nmT 16 In_24 Jn_17 Rn_29 600112 7299501 (L, xs)) _
  refine mx_aload_n 0 (mx_da t_X1_init 22 rfl) rfl rfl rfl rfl ?_
  refine mx_bipush (v := 32) (mx_da t_X1_init 23 rfl) rfl rfl ?_
  refine mx_newA (ty := .int) 16 32 rfl (Or.inl rfl) iac_int (by decide) (by decide) (by decide) (show 1 ≤ 600112 by decide) (show 32 ≤ 7299501 by decide) (len_at rfl (by decide)) rfl rfl (mx_da t_X1_init 24 rfl) rfl ?_
  rw [nm_new (k := 16) (N := 32) (a := 600112) (b := 7299501) (a2 := 600111) (b2 := 7299469) rfl (by decide) rfl rfl]
  show mx_W _ _ 48 [.ref 11] [.ref 17, .ref 11] (nmT 17 In_25 Jn_18 Rn_30 600111 7299469 (L, xs)) _
  refine mx_putFR (ci := 1) (j := 5) _ rfl (by decide) ifl_RX1_28 rfl rfl rfl rfl (shp_at rfl (by decide) rfl) (by rw [len_at (k := 17) rfl (by decide)]; decide) (mx_da t_X1_init 25 rfl) rfl ?_
  show mx_W _ _ 51 [.ref 11] [] (nmT 17 In_25 Jn_18 Rn_31 600111 7299469 (L, xs)) _
  refine mx_aload_n 0 (mx_da t_X1_init 26 rfl) rfl rfl rfl rfl ?_
  refine mx_bipush (v := 32) (mx_da t_X1_init 27 rfl) rfl rfl ?_
  refine mx_newA (ty := .long) 17 32 rfl (Or.inr (Or.inl rfl)) iac_long (by decide) (by decide) (by decide) (show 1 ≤ 600111 by decide) (show 32 ≤ 7299469 by decide) (len_at rfl (by decide)) rfl rfl (mx_da t_X1_init 28 rfl) rfl ?_
  rw [nm_new (k := 17) (N := 32) (a := 600111) (b := 7299469) (a2 := 600110) (b2 := 7299437) rfl (by decide) rfl rfl]
  show mx_W _ _ 56 [.ref 11] [.ref 18, .ref 11] (nmT 18 In_26 Jn_19 Rn_32 600110 7299437 (L, xs)) _
  refine mx_putFR (ci := 1) (j := 6) _ rfl (by decide) ifl_RX1_31 rfl rfl rfl rfl (shp_at rfl (by decide) rfl) (by rw [len_at (k := 18) rfl (by decide)]; decide) (mx_da t_X1_init 29 rfl) rfl ?_
  show mx_W _ _ 59 [.ref 11] [] (nmT 18 In_26 Jn_19 Rn_33 600110 7299437 (L, xs)) _
  refine mx_aload_n 0 (mx_da t_X1_init 30 rfl) rfl rfl rfl rfl ?_
  refine mx_bipush (v := 32) (mx_da t_X1_init 31 rfl) rfl rfl ?_
  refine mx_newA (ty := .long) 18 32 rfl (Or.inr (Or.inl rfl)) iac_long (by decide) (by decide) (by decide) (show 1 ≤ 600110 by decide) (show 32 ≤ 7299437 by decide) (len_at rfl (by decide)) rfl rfl (mx_da t_X1_init 32 rfl) rfl ?_
  rw [nm_new (k := 18) (N := 32) (a := 600110) (b := 7299437) (a2 := 600109) (b2 := 7299405) rfl (by decide) rfl rfl]
  show mx_W _ _ 64 [.ref 11] [.ref 19, .ref 11] (nmT 19 In_27 Jn_20 Rn_34 600109 7299405 (L, xs)) _
  refine mx_putFR (ci := 1) (j := 7) _ rfl (by decide) ifl_RX1_34 rfl rfl rfl rfl (shp_at rfl (by decide) rfl) (by rw [len_at (k := 19) rfl (by decide)]; decide) (mx_da t_X1_init 33 rfl) rfl ?_
  show mx_W _ _ 67 [.ref 11] [] (nmT 19 In_27 Jn_20 Rn_35 600109 7299405 (L, xs)) _
  refine mx_aload_n 0 (mx_da t_X1_init 34 rfl) rfl rfl rfl rfl ?_
  refine mx_iconst (v := 4) (mx_da t_X1_init 35 rfl) rfl rfl ?_
  refine mx_newA (ty := .boolean) 19 4 rfl (Or.inr (Or.inr (Or.inr rfl))) iac_boolean (by decide) (by decide) (by decide) (show 1 ≤ 600109 by decide) (show 4 ≤ 7299405 by decide) (len_at rfl (by decide)) rfl rfl (mx_da t_X1_init 36 rfl) rfl ?_
  rw [nm_new (k := 19) (N := 4) (a := 600109) (b := 7299405) (a2 := 600108) (b2 := 7299401) rfl (by decide) rfl rfl]
  show mx_W _ _ 71 [.ref 11] [.ref 20, .ref 11] (nmT 20 In_28 Jn_21 Rn_36 600108 7299401 (L, xs)) _
  refine mx_putFR (ci := 1) (j := 8) _ rfl (by decide) ifl_RX1_37 rfl rfl rfl rfl (shp_at rfl (by decide) rfl) (by rw [len_at (k := 20) rfl (by decide)]; decide) (mx_da t_X1_init 37 rfl) rfl ?_
  show mx_W _ _ 74 [.ref 11] [] (nmT 20 In_28 Jn_21 Rn_37 600108 7299401 (L, xs)) _
  refine mx_aload_n 0 (mx_da t_X1_init 38 rfl) rfl rfl rfl rfl ?_
  refine mx_iconst (v := 4) (mx_da t_X1_init 39 rfl) rfl rfl ?_
  refine mx_newA (ty := .boolean) 20 4 rfl (Or.inr (Or.inr (Or.inr rfl))) iac_boolean (by decide) (by decide) (by decide) (show 1 ≤ 600108 by decide) (show 4 ≤ 7299401 by decide) (len_at rfl (by decide)) rfl rfl (mx_da t_X1_init 40 rfl) rfl ?_
  rw [nm_new (k := 20) (N := 4) (a := 600108) (b := 7299401) (a2 := 600107) (b2 := 7299397) rfl (by decide) rfl rfl]
  show mx_W _ _ 78 [.ref 11] [.ref 21, .ref 11] (nmT 21 In_29 Jn_22 Rn_38 600107 7299397 (L, xs)) _
  refine mx_putFR (ci := 1) (j := 9) _ rfl (by decide) ifl_RX1_41 rfl rfl rfl rfl (shp_at rfl (by decide) rfl) (by rw [len_at (k := 21) rfl (by decide)]; decide) (mx_da t_X1_init 41 rfl) rfl ?_
  show mx_W _ _ 81 [.ref 11] [] (nmT 21 In_29 Jn_22 Rn_39 600107 7299397 (L, xs)) _
  refine mx_aload_n 0 (mx_da t_X1_init 42 rfl) rfl rfl rfl rfl ?_
  refine mx_iconst (v := 4) (mx_da t_X1_init 43 rfl) rfl rfl ?_
  refine mx_newA (ty := .boolean) 21 4 rfl (Or.inr (Or.inr (Or.inr rfl))) iac_boolean (by decide) (by decide) (by decide) (show 1 ≤ 600107 by decide) (show 4 ≤ 7299397 by decide) (len_at rfl (by decide)) rfl rfl (mx_da t_X1_init 44 rfl) rfl ?_
  rw [nm_new (k := 21) (N := 4) (a := 600107) (b := 7299397) (a2 := 600106) (b2 := 7299393) rfl (by decide) rfl rfl]
  show mx_W _ _ 85 [.ref 11] [.ref 22, .ref 11] (nmT 22 In_30 Jn_23 Rn_40 600106 7299393 (L, xs)) _
  refine mx_putFR (ci := 1) (j := 10) _ rfl (by decide) ifl_RX1_44 rfl rfl rfl rfl (shp_at rfl (by decide) rfl) (by rw [len_at (k := 22) rfl (by decide)]; decide) (mx_da t_X1_init 45 rfl) rfl ?_
  show mx_W _ _ 88 [.ref 11] [] (nmT 22 In_30 Jn_23 Rn_41 600106 7299393 (L, xs)) _
  refine mx_aload_n 0 (mx_da t_X1_init 46 rfl) rfl rfl rfl rfl ?_
  refine mx_bipush (v := 40) (mx_da t_X1_init 47 rfl) rfl rfl ?_
  refine mx_newA (ty := .int) 22 40 rfl (Or.inl rfl) iac_int (by decide) (by decide) (by decide) (show 1 ≤ 600106 by decide) (show 40 ≤ 7299393 by decide) (len_at rfl (by decide)) rfl rfl (mx_da t_X1_init 48 rfl) rfl ?_
  rw [nm_new (k := 22) (N := 40) (a := 600106) (b := 7299393) (a2 := 600105) (b2 := 7299353) rfl (by decide) rfl rfl]
  show mx_W _ _ 93 [.ref 11] [.ref 23, .ref 11] (nmT 23 In_31 Jn_24 Rn_42 600105 7299353 (L, xs)) _
  refine mx_putFR (ci := 1) (j := 11) _ rfl (by decide) ifl_RX1_47 rfl rfl rfl rfl (shp_at rfl (by decide) rfl) (by rw [len_at (k := 23) rfl (by decide)]; decide) (mx_da t_X1_init 49 rfl) rfl ?_
  show mx_W _ _ 96 [.ref 11] [] (nmT 23 In_31 Jn_24 Rn_43 600105 7299353 (L, xs)) _
  refine mx_aload_n 0 (mx_da t_X1_init 50 rfl) rfl rfl rfl rfl ?_
  refine mx_iconst (v := 0) (mx_da t_X1_init 51 rfl) rfl rfl ?_
  refine mx_putI fs_RX1_50 rfl (shp_at rfl (by decide) rfl) rfl rfl rfl (mx_da t_X1_init 52 rfl) rfl ?_
  show mx_W _ _ 101 [.ref 11] [] (nmT 23 In_32 Jn_24 Rn_43 600105 7299353 (L, xs)) _
  refine mx_aload_n 0 (mx_da t_X1_init 53 rfl) rfl rfl rfl rfl ?_
  refine mx_iconst (v := 0) (mx_da t_X1_init 54 rfl) rfl rfl ?_
  refine mx_putI fs_RX1_54 rfl (shp_at rfl (by decide) rfl) rfl rfl rfl (mx_da t_X1_init 55 rfl) rfl ?_
  show mx_W _ _ 106 [.ref 11] [] (nmT 23 In_33 Jn_24 Rn_43 600105 7299353 (L, xs)) _
  exact mx_vret rfl (mx_da t_X1_init 56 rfl) k
def Rn_44 : Nat → Nat → Nat := mx_up Rn_43 2 2 11
def In_34 : Nat → Nat → Int32 := mx_up In_33 2 3 0
def In_35 : Nat → Nat → Int32 := mx_up In_34 2 4 (-1)
set_option maxHeartbeats 4000000 in
theorem in_2 {d : Nat} {Q : mx_O → mx_M → Prop} (L : Nat) (xs : Nat → Int32) (k : Q (.inl none) (nmT 23 In_35 Jn_24 Rn_44 600105 7299353 (L, xs))) : mx_W m_X4_init (d + 4) 0 [.ref 2] [] (nmT 2 In_2 Jn_2 Rn_2 600126 7301076 (L, xs)) Q := by
  refine mx_aload_n 0 (mx_da t_X4_init 0 rfl) rfl rfl rfl rfl ?_
  refine mx_objInit iml_RX4_3 ioi_in ioi_cd (by decide) (mx_da t_X4_init 1 rfl) rfl ?_
  refine mx_aload_n 0 (mx_da t_X4_init 2 rfl) rfl rfl rfl rfl ?_
  refine mx_new (ci := 8) _ 2 rfl icl_RX4_9 iin_RX8 ini_RX8 (show 1 ≤ 600126 by decide) (show 7 ≤ 7301076 by decide) (len_at rfl (by decide)) rfl rfl (mx_da t_X4_init 3 rfl) rfl ?_
  rw [nm_new (k := 2) (N := 7) (a := 600126) (b := 7301076) (a2 := 600125) (b2 := 7301069) rfl (by decide) rfl rfl]
  show mx_W _ _ 8 [.ref 2] [.ref 3, .ref 2] (nmT 3 In_3 Jn_3 Rn_3 600125 7301069 (L, xs)) _
  refine mx_dup (mx_da t_X4_init 4 rfl) rfl rfl ?_
  refine mx_callI yX8_init m_X8_init 3 mm_X8_init (Or.inr ⟨"MeerDrawers", iml_RX4_11⟩) im_X8_init rfl rfl rfl (by decide) (mx_da t_X4_init 5 rfl) rfl (by decide) (len_at rfl (by decide)) rfl rfl (in_3 L xs ⟨by rw [len_at (k := 5) rfl (by decide)]; decide, ?_⟩)
  show mx_W _ _ 12 [.ref 2] [.ref 3, .ref 2] (nmT 5 In_11 Jn_6 Rn_7 600123 7300367 (L, xs)) _
  refine mx_putFR (ci := 4) (j := 0) _ rfl (by decide) ifl_RX4_12 rfl rfl rfl rfl (shp_at rfl (by decide) rfl) (by rw [len_at (k := 5) rfl (by decide)]; decide) (mx_da t_X4_init 6 rfl) rfl ?_
  show mx_W _ _ 15 [.ref 2] [] (nmT 5 In_11 Jn_6 Rn_8 600123 7300367 (L, xs)) _
  refine mx_aload_n 0 (mx_da t_X4_init 7 rfl) rfl rfl rfl rfl ?_
  refine mx_new (ci := 7) _ 5 rfl icl_RX4_18 iin_RX7 ini_RX7 (show 1 ≤ 600123 by decide) (show 6 ≤ 7300367 by decide) (len_at rfl (by decide)) rfl rfl (mx_da t_X4_init 8 rfl) rfl ?_
  rw [nm_new (k := 5) (N := 6) (a := 600123) (b := 7300367) (a2 := 600122) (b2 := 7300361) rfl (by decide) rfl rfl]
  show mx_W _ _ 19 [.ref 2] [.ref 6, .ref 2] (nmT 6 In_12 Jn_7 Rn_9 600122 7300361 (L, xs)) _
  refine mx_dup (mx_da t_X4_init 9 rfl) rfl rfl ?_
  refine mx_callI yX7_init m_X7_init 6 mm_X7_init (Or.inr ⟨"MeerDrawers", iml_RX4_20⟩) im_X7_init rfl rfl rfl (by decide) (mx_da t_X4_init 10 rfl) rfl (by decide) (len_at rfl (by decide)) rfl rfl (in_6 L xs ⟨by rw [len_at (k := 10) rfl (by decide)]; decide, ?_⟩)
  show mx_W _ _ 23 [.ref 2] [.ref 6, .ref 2] (nmT 10 In_18 Jn_11 Rn_17 600118 7299589 (L, xs)) _
  refine mx_putFR (ci := 4) (j := 1) _ rfl (by decide) ifl_RX4_21 rfl rfl rfl rfl (shp_at rfl (by decide) rfl) (by rw [len_at (k := 10) rfl (by decide)]; decide) (mx_da t_X4_init 11 rfl) rfl ?_
  show mx_W _ _ 26 [.ref 2] [] (nmT 10 In_18 Jn_11 Rn_18 600118 7299589 (L, xs)) _
  refine mx_aload_n 0 (mx_da t_X4_init 12 rfl) rfl rfl rfl rfl ?_
  refine mx_new (ci := 1) _ 10 rfl icl_RX4_25 iin_RX1 ini_RX1 (show 1 ≤ 600118 by decide) (show 14 ≤ 7299589 by decide) (len_at rfl (by decide)) rfl rfl (mx_da t_X4_init 13 rfl) rfl ?_
  rw [nm_new (k := 10) (N := 14) (a := 600118) (b := 7299589) (a2 := 600117) (b2 := 7299575) rfl (by decide) rfl rfl]
  show mx_W _ _ 30 [.ref 2] [.ref 11, .ref 2] (nmT 11 In_19 Jn_12 Rn_19 600117 7299575 (L, xs)) _
  refine mx_dup (mx_da t_X4_init 14 rfl) rfl rfl ?_
  refine mx_callI yX1_init m_X1_init 11 mm_X1_init (Or.inr ⟨"MeerDrawers", iml_RX4_27⟩) im_X1_init rfl rfl rfl (by decide) (mx_da t_X4_init 15 rfl) rfl (by decide) (len_at rfl (by decide)) rfl rfl (in_11 L xs ⟨by rw [len_at (k := 23) rfl (by decide)]; decide, ?_⟩)
  show mx_W _ _ 34 [.ref 2] [.ref 11, .ref 2] (nmT 23 In_33 Jn_24 Rn_43 600105 7299353 (L, xs)) _
  refine mx_putR (by rw [len_at (k := 23) rfl (by decide)]; decide) fs_RX4_28 rfl (shp_at rfl (by decide) rfl) rfl (mx_da t_X4_init 16 rfl) rfl ?_
  show mx_W _ _ 37 [.ref 2] [] (nmT 23 In_33 Jn_24 Rn_44 600105 7299353 (L, xs)) _
  refine mx_aload_n 0 (mx_da t_X4_init 17 rfl) rfl rfl rfl rfl ?_
  refine mx_iconst (v := 0) (mx_da t_X4_init 18 rfl) rfl rfl ?_
  refine mx_putI fs_RX4_32 rfl (shp_at rfl (by decide) rfl) rfl rfl rfl (mx_da t_X4_init 19 rfl) rfl ?_
  show mx_W _ _ 42 [.ref 2] [] (nmT 23 In_34 Jn_24 Rn_44 600105 7299353 (L, xs)) _
  refine mx_aload_n 0 (mx_da t_X4_init 20 rfl) rfl rfl rfl rfl ?_
  refine mx_iconst (v := (-1)) (mx_da t_X4_init 21 rfl) rfl rfl ?_
  refine mx_putI fs_RX4_36 rfl (shp_at rfl (by decide) rfl) rfl rfl rfl (mx_da t_X4_init 22 rfl) rfl ?_
  show mx_W _ _ 47 [.ref 2] [] (nmT 23 In_35 Jn_24 Rn_44 600105 7299353 (L, xs)) _
  exact mx_vret rfl (mx_da t_X4_init 23 rfl) k
theorem ifl_RX10_10 : Cond.fieldLink RX10 10 "MeerDrawers" "parser" "LMeerDrawers$Parser;" ∈ lw_tbl := tb_2 _ (List.mem_of_getElem? (i := 77) rfl)
def Rn_45 : Nat → Nat → Nat := mx_up Rn_44 1 0 2
theorem rd_1_0 : Rn_45 1 0 = 2 := by decide +kernel
theorem rd_2_0 : Rn_45 2 0 = 3 := by decide +kernel
theorem rd_3_0 : Rn_45 3 0 = 4 := by decide +kernel
theorem ifl_RX10_26 : Cond.fieldLink RX10 26 "MeerDrawers" "tape" "LMeerDrawers$Tape;" ∈ lw_tbl := tb_2 _ (List.mem_of_getElem? (i := 78) rfl)
def Rn_46 : Nat → Nat → Nat := mx_up Rn_45 1 1 4
theorem icl_RX10_27 : Cond.classLink RX10 27 RX3 ∈ lw_tbl := tb_1 _ (List.mem_of_getElem? (i := 220) rfl)
theorem iin_RX3 : Cond.instantiable RX3 10 ∈ lw_tbl := tb_1 _ (List.mem_of_getElem? (i := 221) rfl)
theorem ini_RX3 : Cond.initialized RX3 ∈ lw_tbl := tb_1 _ (List.mem_of_getElem? (i := 7) rfl)
def In_36 : Nat → Nat → Int32 := mx_zr In_35 24 0
def Jn_25 : Nat → Nat → Int64 := mx_zr Jn_24 24 0
def Rn_47 : Nat → Nat → Nat := mx_zr Rn_46 24 0
theorem iml_RX10_29 : Cond.methodLinkNest RX10 29 yX3_init "MeerDrawers" ∈ lw_tbl := tb_1 _ (List.mem_of_getElem? (i := 222) rfl)
theorem iml_RX3_3 : Cond.methodLink RX3 3 Lib.objectInit ∈ lw_tbl := tb_1 _ (List.mem_of_getElem? (i := 225) rfl)
def In_37 : Nat → Nat → Int32 := mx_zr In_36 25 0
def Jn_26 : Nat → Nat → Int64 := mx_zr Jn_25 25 0
def Rn_48 : Nat → Nat → Nat := mx_zr Rn_47 25 0
theorem ifl_RX3_11 : Cond.fieldLink RX3 11 "MeerDrawers$Orders" "signs" "[I" ∈ lw_tbl := tb_1 _ (List.mem_of_getElem? (i := 226) rfl)
def Rn_49 : Nat → Nat → Nat := mx_up Rn_48 24 0 25
def In_38 : Nat → Nat → Int32 := mx_zr In_37 26 0
def Jn_27 : Nat → Nat → Int64 := mx_zr Jn_26 26 0
def Rn_50 : Nat → Nat → Nat := mx_zr Rn_49 26 0
theorem ifl_RX3_15 : Cond.fieldLink RX3 15 "MeerDrawers$Orders" "sizes" "[I" ∈ lw_tbl := tb_1 _ (List.mem_of_getElem? (i := 227) rfl)
def Rn_51 : Nat → Nat → Nat := mx_up Rn_50 24 1 26
def In_39 : Nat → Nat → Int32 := mx_zr In_38 27 0
def Jn_28 : Nat → Nat → Int64 := mx_zr Jn_27 27 0
def Rn_52 : Nat → Nat → Nat := mx_zr Rn_51 27 0
theorem ifl_RX3_18 : Cond.fieldLink RX3 18 "MeerDrawers$Orders" "ranks" "[I" ∈ lw_tbl := tb_1 _ (List.mem_of_getElem? (i := 228) rfl)
def Rn_53 : Nat → Nat → Nat := mx_up Rn_52 24 2 27
def In_40 : Nat → Nat → Int32 := mx_zr In_39 28 0
def Jn_29 : Nat → Nat → Int64 := mx_zr Jn_28 28 0
def Rn_54 : Nat → Nat → Nat := mx_zr Rn_53 28 0
theorem ifl_RX3_21 : Cond.fieldLink RX3 21 "MeerDrawers$Orders" "cards" "[I" ∈ lw_tbl := tb_1 _ (List.mem_of_getElem? (i := 229) rfl)
def Rn_55 : Nat → Nat → Nat := mx_up Rn_54 24 3 28
def In_41 : Nat → Nat → Int32 := mx_zr In_40 29 0
def Jn_30 : Nat → Nat → Int64 := mx_zr Jn_29 29 0
def Rn_56 : Nat → Nat → Nat := mx_zr Rn_55 29 0
theorem ifl_RX3_24 : Cond.fieldLink RX3 24 "MeerDrawers$Orders" "heading" "[J" ∈ lw_tbl := tb_1 _ (List.mem_of_getElem? (i := 230) rfl)
def Rn_57 : Nat → Nat → Nat := mx_up Rn_56 24 4 29
def In_42 : Nat → Nat → Int32 := mx_zr In_41 30 0
def Jn_31 : Nat → Nat → Int64 := mx_zr Jn_30 30 0
def Rn_58 : Nat → Nat → Nat := mx_zr Rn_57 30 0
theorem ifl_RX3_30 : Cond.fieldLink RX3 30 "MeerDrawers$Orders" "folds" "[I" ∈ lw_tbl := tb_1 _ (List.mem_of_getElem? (i := 231) rfl)
def Rn_59 : Nat → Nat → Nat := mx_up Rn_58 24 5 30
def In_43 : Nat → Nat → Int32 := mx_up In_42 24 6 (-1)
def In_44 : Nat → Nat → Int32 := mx_up In_43 24 7 0
def In_45 : Nat → Nat → Int32 := mx_up In_44 24 8 0
def In_46 : Nat → Nat → Int32 := mx_up In_45 24 9 0
set_option maxHeartbeats 4000000 in
theorem in_24 {d : Nat} {Q : mx_O → mx_M → Prop} (L : Nat) (xs : Nat → Int32) (k : Q (.inl none) (nmT 30 In_46 Jn_31 Rn_59 600098 7297407 (L, xs))) : mx_W m_X3_init (d + 4) 0 [.ref 24] [] (nmT 24 In_36 Jn_25 Rn_47 600104 7299343 (L, xs)) Q := by
  refine mx_aload_n 0 (mx_da t_X3_init 0 rfl) rfl rfl rfl rfl ?_
  refine mx_objInit iml_RX3_3 ioi_in ioi_cd (by decide) (mx_da t_X3_init 1 rfl) rfl ?_
  refine mx_aload_n 0 (mx_da t_X3_init 2 rfl) rfl rfl rfl rfl ?_
  refine mx_sipush (v := 1750) (mx_da t_X3_init 3 rfl) rfl rfl ?_
  refine mx_newA (ty := .int) 24 1750 rfl (Or.inl rfl) iac_int (by decide) (by decide) (by decide) (show 1 ≤ 600104 by decide) (show 1750 ≤ 7299343 by decide) (len_at rfl (by decide)) rfl rfl (mx_da t_X3_init 4 rfl) rfl ?_
  rw [nm_new (k := 24) (N := 1750) (a := 600104) (b := 7299343) (a2 := 600103) (b2 := 7297593) rfl (by decide) rfl rfl]
  show mx_W _ _ 10 [.ref 24] [.ref 25, .ref 24] (nmT 25 In_37 Jn_26 Rn_48 600103 7297593 (L, xs)) _
  refine mx_putFR (ci := 3) (j := 0) _ rfl (by decide) ifl_RX3_11 rfl rfl rfl rfl (shp_at rfl (by decide) rfl) (by rw [len_at (k := 25) rfl (by decide)]; decide) (mx_da t_X3_init 5 rfl) rfl ?_
  show mx_W _ _ 13 [.ref 24] [] (nmT 25 In_37 Jn_26 Rn_49 600103 7297593 (L, xs)) _
  refine mx_aload_n 0 (mx_da t_X3_init 6 rfl) rfl rfl rfl rfl ?_
  refine mx_bipush (v := 50) (mx_da t_X3_init 7 rfl) rfl rfl ?_
  refine mx_newA (ty := .int) 25 50 rfl (Or.inl rfl) iac_int (by decide) (by decide) (by decide) (show 1 ≤ 600103 by decide) (show 50 ≤ 7297593 by decide) (len_at rfl (by decide)) rfl rfl (mx_da t_X3_init 8 rfl) rfl ?_
  rw [nm_new (k := 25) (N := 50) (a := 600103) (b := 7297593) (a2 := 600102) (b2 := 7297543) rfl (by decide) rfl rfl]
  show mx_W _ _ 18 [.ref 24] [.ref 26, .ref 24] (nmT 26 In_38 Jn_27 Rn_50 600102 7297543 (L, xs)) _
  refine mx_putFR (ci := 3) (j := 1) _ rfl (by decide) ifl_RX3_15 rfl rfl rfl rfl (shp_at rfl (by decide) rfl) (by rw [len_at (k := 26) rfl (by decide)]; decide) (mx_da t_X3_init 9 rfl) rfl ?_
  show mx_W _ _ 21 [.ref 24] [] (nmT 26 In_38 Jn_27 Rn_51 600102 7297543 (L, xs)) _
  refine mx_aload_n 0 (mx_da t_X3_init 10 rfl) rfl rfl rfl rfl ?_
  refine mx_bipush (v := 50) (mx_da t_X3_init 11 rfl) rfl rfl ?_
  refine mx_newA (ty := .int) 26 50 rfl (Or.inl rfl) iac_int (by decide) (by decide) (by decide) (show 1 ≤ 600102 by decide) (show 50 ≤ 7297543 by decide) (len_at rfl (by decide)) rfl rfl (mx_da t_X3_init 12 rfl) rfl ?_
  rw [nm_new (k := 26) (N := 50) (a := 600102) (b := 7297543) (a2 := 600101) (b2 := 7297493) rfl (by decide) rfl rfl]
  show mx_W _ _ 26 [.ref 24] [.ref 27, .ref 24] (nmT 27 In_39 Jn_28 Rn_52 600101 7297493 (L, xs)) _
  refine mx_putFR (ci := 3) (j := 2) _ rfl (by decide) ifl_RX3_18 rfl rfl rfl rfl (shp_at rfl (by decide) rfl) (by rw [len_at (k := 27) rfl (by decide)]; decide) (mx_da t_X3_init 13 rfl) rfl ?_
  show mx_W _ _ 29 [.ref 24] [] (nmT 27 In_39 Jn_28 Rn_53 600101 7297493 (L, xs)) _
  refine mx_aload_n 0 (mx_da t_X3_init 14 rfl) rfl rfl rfl rfl ?_
  refine mx_bipush (v := 50) (mx_da t_X3_init 15 rfl) rfl rfl ?_
  refine mx_newA (ty := .int) 27 50 rfl (Or.inl rfl) iac_int (by decide) (by decide) (by decide) (show 1 ≤ 600101 by decide) (show 50 ≤ 7297493 by decide) (len_at rfl (by decide)) rfl rfl (mx_da t_X3_init 16 rfl) rfl ?_
  rw [nm_new (k := 27) (N := 50) (a := 600101) (b := 7297493) (a2 := 600100) (b2 := 7297443) rfl (by decide) rfl rfl]
  show mx_W _ _ 34 [.ref 24] [.ref 28, .ref 24] (nmT 28 In_40 Jn_29 Rn_54 600100 7297443 (L, xs)) _
  refine mx_putFR (ci := 3) (j := 3) _ rfl (by decide) ifl_RX3_21 rfl rfl rfl rfl (shp_at rfl (by decide) rfl) (by rw [len_at (k := 28) rfl (by decide)]; decide) (mx_da t_X3_init 17 rfl) rfl ?_
  show mx_W _ _ 37 [.ref 24] [] (nmT 28 In_40 Jn_29 Rn_55 600100 7297443 (L, xs)) _
  refine mx_aload_n 0 (mx_da t_X3_init 18 rfl) rfl rfl rfl rfl ?_
  refine mx_iconst (v := 4) (mx_da t_X3_init 19 rfl) rfl rfl ?_
  refine mx_newA (ty := .long) 28 4 rfl (Or.inr (Or.inl rfl)) iac_long (by decide) (by decide) (by decide) (show 1 ≤ 600100 by decide) (show 4 ≤ 7297443 by decide) (len_at rfl (by decide)) rfl rfl (mx_da t_X3_init 20 rfl) rfl ?_
  rw [nm_new (k := 28) (N := 4) (a := 600100) (b := 7297443) (a2 := 600099) (b2 := 7297439) rfl (by decide) rfl rfl]
  show mx_W _ _ 41 [.ref 24] [.ref 29, .ref 24] (nmT 29 In_41 Jn_30 Rn_56 600099 7297439 (L, xs)) _
  refine mx_putFR (ci := 3) (j := 4) _ rfl (by decide) ifl_RX3_24 rfl rfl rfl rfl (shp_at rfl (by decide) rfl) (by rw [len_at (k := 29) rfl (by decide)]; decide) (mx_da t_X3_init 21 rfl) rfl ?_
  show mx_W _ _ 44 [.ref 24] [] (nmT 29 In_41 Jn_30 Rn_57 600099 7297439 (L, xs)) _
  refine mx_aload_n 0 (mx_da t_X3_init 22 rfl) rfl rfl rfl rfl ?_
  refine mx_bipush (v := 32) (mx_da t_X3_init 23 rfl) rfl rfl ?_
  refine mx_newA (ty := .int) 29 32 rfl (Or.inl rfl) iac_int (by decide) (by decide) (by decide) (show 1 ≤ 600099 by decide) (show 32 ≤ 7297439 by decide) (len_at rfl (by decide)) rfl rfl (mx_da t_X3_init 24 rfl) rfl ?_
  rw [nm_new (k := 29) (N := 32) (a := 600099) (b := 7297439) (a2 := 600098) (b2 := 7297407) rfl (by decide) rfl rfl]
  show mx_W _ _ 49 [.ref 24] [.ref 30, .ref 24] (nmT 30 In_42 Jn_31 Rn_58 600098 7297407 (L, xs)) _
  refine mx_putFR (ci := 3) (j := 5) _ rfl (by decide) ifl_RX3_30 rfl rfl rfl rfl (shp_at rfl (by decide) rfl) (by rw [len_at (k := 30) rfl (by decide)]; decide) (mx_da t_X3_init 25 rfl) rfl ?_
  show mx_W _ _ 52 [.ref 24] [] (nmT 30 In_42 Jn_31 Rn_59 600098 7297407 (L, xs)) _
  refine mx_aload_n 0 (mx_da t_X3_init 26 rfl) rfl rfl rfl rfl ?_
  refine mx_iconst (v := (-1)) (mx_da t_X3_init 27 rfl) rfl rfl ?_
  refine mx_putI fs_RX3_33 rfl (shp_at rfl (by decide) rfl) rfl rfl rfl (mx_da t_X3_init 28 rfl) rfl ?_
  show mx_W _ _ 57 [.ref 24] [] (nmT 30 In_43 Jn_31 Rn_59 600098 7297407 (L, xs)) _
  refine mx_aload_n 0 (mx_da t_X3_init 29 rfl) rfl rfl rfl rfl ?_
  refine mx_iconst (v := 0) (mx_da t_X3_init 30 rfl) rfl rfl ?_
  refine mx_putI fs_RX3_37 rfl (shp_at rfl (by decide) rfl) rfl rfl rfl (mx_da t_X3_init 31 rfl) rfl ?_
  show mx_W _ _ 62 [.ref 24] [] (nmT 30 In_44 Jn_31 Rn_59 600098 7297407 (L, xs)) _
  refine mx_aload_n 0 (mx_da t_X3_init 32 rfl) rfl rfl rfl rfl ?_
  refine mx_iconst (v := 0) (mx_da t_X3_init 33 rfl) rfl rfl ?_
  refine mx_putI fs_RX3_41 rfl (shp_at rfl (by decide) rfl) rfl rfl rfl (mx_da t_X3_init 34 rfl) rfl ?_
  show mx_W _ _ 67 [.ref 24] [] (nmT 30 In_45 Jn_31 Rn_59 600098 7297407 (L, xs)) _
  refine mx_aload_n 0 (mx_da t_X3_init 35 rfl) rfl rfl rfl rfl ?_
  refine mx_iconst (v := 0) (mx_da t_X3_init 36 rfl) rfl rfl ?_
  refine mx_putI fs_RX3_44 rfl (shp_at rfl (by decide) rfl) rfl rfl rfl (mx_da t_X3_init 37 rfl) rfl ?_
  show mx_W _ _ 72 [.ref 24] [] (nmT 30 In_46 Jn_31 Rn_59 600098 7297407 (L, xs)) _
  exact mx_vret rfl (mx_da t_X3_init 38 rfl) k
theorem ifl_RX10_30 : Cond.fieldLink RX10 30 "MeerDrawers" "orders" "LMeerDrawers$Orders;" ∈ lw_tbl := tb_2 _ (List.mem_of_getElem? (i := 79) rfl)
def Rn_60 : Nat → Nat → Nat := mx_up Rn_59 1 2 24
theorem icl_RX10_34 : Cond.classLink RX10 34 RX5 ∈ lw_tbl := tb_2 _ (List.mem_of_getElem? (i := 21) rfl)
theorem iin_RX5 : Cond.instantiable RX5 2 ∈ lw_tbl := tb_2 _ (List.mem_of_getElem? (i := 22) rfl)
theorem ini_RX5 : Cond.initialized RX5 ∈ lw_tbl := tb_1 _ (List.mem_of_getElem? (i := 8) rfl)
def In_47 : Nat → Nat → Int32 := mx_zr In_46 31 0
def Jn_32 : Nat → Nat → Int64 := mx_zr Jn_31 31 0
def Rn_61 : Nat → Nat → Nat := mx_zr Rn_60 31 0
theorem iml_RX10_36 : Cond.methodLinkNest RX10 36 yX5_init "MeerDrawers" ∈ lw_tbl := tb_2 _ (List.mem_of_getElem? (i := 23) rfl)
theorem iml_RX5_3 : Cond.methodLink RX5 3 Lib.objectInit ∈ lw_tbl := tb_2 _ (List.mem_of_getElem? (i := 26) rfl)
def In_48 : Nat → Nat → Int32 := mx_zr In_47 32 0
def Jn_33 : Nat → Nat → Int64 := mx_zr Jn_32 32 0
def Rn_62 : Nat → Nat → Nat := mx_zr Rn_61 32 0
theorem ifl_RX5_9 : Cond.fieldLink RX5 9 "MeerDrawers$Row" "cards" "[I" ∈ lw_tbl := tb_2 _ (List.mem_of_getElem? (i := 27) rfl)
def Rn_63 : Nat → Nat → Nat := mx_up Rn_62 31 0 32
def In_49 : Nat → Nat → Int32 := mx_up In_48 31 1 0
set_option maxHeartbeats 4000000 in
theorem in_31 {d : Nat} {Q : mx_O → mx_M → Prop} (L : Nat) (xs : Nat → Int32) (k : Q (.inl none) (nmT 32 In_49 Jn_33 Rn_63 600096 7297395 (L, xs))) : mx_W m_X5_init (d + 4) 0 [.ref 31] [] (nmT 31 In_47 Jn_32 Rn_61 600097 7297405 (L, xs)) Q := by
  refine mx_aload_n 0 (mx_da t_X5_init 0 rfl) rfl rfl rfl rfl ?_
  refine mx_objInit iml_RX5_3 ioi_in ioi_cd (by decide) (mx_da t_X5_init 1 rfl) rfl ?_
  refine mx_aload_n 0 (mx_da t_X5_init 2 rfl) rfl rfl rfl rfl ?_
  refine mx_bipush (v := 10) (mx_da t_X5_init 3 rfl) rfl rfl ?_
  refine mx_newA (ty := .int) 31 10 rfl (Or.inl rfl) iac_int (by decide) (by decide) (by decide) (show 1 ≤ 600097 by decide) (show 10 ≤ 7297405 by decide) (len_at rfl (by decide)) rfl rfl (mx_da t_X5_init 4 rfl) rfl ?_
  rw [nm_new (k := 31) (N := 10) (a := 600097) (b := 7297405) (a2 := 600096) (b2 := 7297395) rfl (by decide) rfl rfl]
  show mx_W _ _ 9 [.ref 31] [.ref 32, .ref 31] (nmT 32 In_48 Jn_33 Rn_62 600096 7297395 (L, xs)) _
  refine mx_putFR (ci := 5) (j := 0) _ rfl (by decide) ifl_RX5_9 rfl rfl rfl rfl (shp_at rfl (by decide) rfl) (by rw [len_at (k := 32) rfl (by decide)]; decide) (mx_da t_X5_init 5 rfl) rfl ?_
  show mx_W _ _ 12 [.ref 31] [] (nmT 32 In_48 Jn_33 Rn_63 600096 7297395 (L, xs)) _
  refine mx_aload_n 0 (mx_da t_X5_init 6 rfl) rfl rfl rfl rfl ?_
  refine mx_iconst (v := 0) (mx_da t_X5_init 7 rfl) rfl rfl ?_
  refine mx_putI fs_RX5_15 rfl (shp_at rfl (by decide) rfl) rfl rfl rfl (mx_da t_X5_init 8 rfl) rfl ?_
  show mx_W _ _ 17 [.ref 31] [] (nmT 32 In_49 Jn_33 Rn_63 600096 7297395 (L, xs)) _
  exact mx_vret rfl (mx_da t_X5_init 9 rfl) k
theorem ifl_RX10_37 : Cond.fieldLink RX10 37 "MeerDrawers" "standing" "LMeerDrawers$Row;" ∈ lw_tbl := tb_2 _ (List.mem_of_getElem? (i := 80) rfl)
def Rn_64 : Nat → Nat → Nat := mx_up Rn_63 1 3 31
def In_50 : Nat → Nat → Int32 := mx_zr In_49 33 0
def Jn_34 : Nat → Nat → Int64 := mx_zr Jn_33 33 0
def Rn_65 : Nat → Nat → Nat := mx_zr Rn_64 33 0
def In_51 : Nat → Nat → Int32 := mx_zr In_50 34 0
def Jn_35 : Nat → Nat → Int64 := mx_zr Jn_34 34 0
def Rn_66 : Nat → Nat → Nat := mx_zr Rn_65 34 0
def Rn_67 : Nat → Nat → Nat := mx_up Rn_66 33 0 34
def In_52 : Nat → Nat → Int32 := mx_up In_51 33 1 0
set_option maxHeartbeats 4000000 in
theorem in_33 {d : Nat} {Q : mx_O → mx_M → Prop} (L : Nat) (xs : Nat → Int32) (k : Q (.inl none) (nmT 34 In_52 Jn_35 Rn_67 600094 7297383 (L, xs))) : mx_W m_X5_init (d + 4) 0 [.ref 33] [] (nmT 33 In_50 Jn_34 Rn_65 600095 7297393 (L, xs)) Q := by
  refine mx_aload_n 0 (mx_da t_X5_init 0 rfl) rfl rfl rfl rfl ?_
  refine mx_objInit iml_RX5_3 ioi_in ioi_cd (by decide) (mx_da t_X5_init 1 rfl) rfl ?_
  refine mx_aload_n 0 (mx_da t_X5_init 2 rfl) rfl rfl rfl rfl ?_
  refine mx_bipush (v := 10) (mx_da t_X5_init 3 rfl) rfl rfl ?_
  refine mx_newA (ty := .int) 33 10 rfl (Or.inl rfl) iac_int (by decide) (by decide) (by decide) (show 1 ≤ 600095 by decide) (show 10 ≤ 7297393 by decide) (len_at rfl (by decide)) rfl rfl (mx_da t_X5_init 4 rfl) rfl ?_
  rw [nm_new (k := 33) (N := 10) (a := 600095) (b := 7297393) (a2 := 600094) (b2 := 7297383) rfl (by decide) rfl rfl]
  show mx_W _ _ 9 [.ref 33] [.ref 34, .ref 33] (nmT 34 In_51 Jn_35 Rn_66 600094 7297383 (L, xs)) _
  refine mx_putFR (ci := 5) (j := 0) _ rfl (by decide) ifl_RX5_9 rfl rfl rfl rfl (shp_at rfl (by decide) rfl) (by rw [len_at (k := 34) rfl (by decide)]; decide) (mx_da t_X5_init 5 rfl) rfl ?_
  show mx_W _ _ 12 [.ref 33] [] (nmT 34 In_51 Jn_35 Rn_67 600094 7297383 (L, xs)) _
  refine mx_aload_n 0 (mx_da t_X5_init 6 rfl) rfl rfl rfl rfl ?_
  refine mx_iconst (v := 0) (mx_da t_X5_init 7 rfl) rfl rfl ?_
  refine mx_putI fs_RX5_15 rfl (shp_at rfl (by decide) rfl) rfl rfl rfl (mx_da t_X5_init 8 rfl) rfl ?_
  show mx_W _ _ 17 [.ref 33] [] (nmT 34 In_52 Jn_35 Rn_67 600094 7297383 (L, xs)) _
  exact mx_vret rfl (mx_da t_X5_init 9 rfl) k
theorem ifl_RX10_41 : Cond.fieldLink RX10 41 "MeerDrawers" "trial" "LMeerDrawers$Row;" ∈ lw_tbl := tb_2 _ (List.mem_of_getElem? (i := 81) rfl)
def Rn_68 : Nat → Nat → Nat := mx_up Rn_67 1 4 33
theorem icl_RX10_44 : Cond.classLink RX10 44 RX0 ∈ lw_tbl := tb_2 _ (List.mem_of_getElem? (i := 36) rfl)
theorem iin_RX0 : Cond.instantiable RX0 2 ∈ lw_tbl := tb_2 _ (List.mem_of_getElem? (i := 37) rfl)
theorem ini_RX0 : Cond.initialized RX0 ∈ lw_tbl := tb_1 _ (List.mem_of_getElem? (i := 9) rfl)
def In_53 : Nat → Nat → Int32 := mx_zr In_52 35 0
def Jn_36 : Nat → Nat → Int64 := mx_zr Jn_35 35 0
def Rn_69 : Nat → Nat → Nat := mx_zr Rn_68 35 0
theorem iml_RX10_46 : Cond.methodLinkNest RX10 46 yX0_init "MeerDrawers" ∈ lw_tbl := tb_2 _ (List.mem_of_getElem? (i := 38) rfl)
theorem iml_RX0_3 : Cond.methodLink RX0 3 Lib.objectInit ∈ lw_tbl := tb_2 _ (List.mem_of_getElem? (i := 41) rfl)
def In_54 : Nat → Nat → Int32 := mx_zr In_53 36 0
def Jn_37 : Nat → Nat → Int64 := mx_zr Jn_36 36 0
def Rn_70 : Nat → Nat → Nat := mx_zr Rn_69 36 0
theorem ifl_RX0_9 : Cond.fieldLink RX0 9 "MeerDrawers$Acts" "rows" "[J" ∈ lw_tbl := tb_2 _ (List.mem_of_getElem? (i := 42) rfl)
def Rn_71 : Nat → Nat → Nat := mx_up Rn_70 35 0 36
def In_55 : Nat → Nat → Int32 := mx_up In_54 35 1 0
set_option maxHeartbeats 4000000 in
theorem in_35 {d : Nat} {Q : mx_O → mx_M → Prop} (L : Nat) (xs : Nat → Int32) (k : Q (.inl none) (nmT 36 In_55 Jn_37 Rn_71 600092 7297341 (L, xs))) : mx_W m_X0_init (d + 4) 0 [.ref 35] [] (nmT 35 In_53 Jn_36 Rn_69 600093 7297381 (L, xs)) Q := by
  refine mx_aload_n 0 (mx_da t_X0_init 0 rfl) rfl rfl rfl rfl ?_
  refine mx_objInit iml_RX0_3 ioi_in ioi_cd (by decide) (mx_da t_X0_init 1 rfl) rfl ?_
  refine mx_aload_n 0 (mx_da t_X0_init 2 rfl) rfl rfl rfl rfl ?_
  refine mx_bipush (v := 40) (mx_da t_X0_init 3 rfl) rfl rfl ?_
  refine mx_newA (ty := .long) 35 40 rfl (Or.inr (Or.inl rfl)) iac_long (by decide) (by decide) (by decide) (show 1 ≤ 600093 by decide) (show 40 ≤ 7297381 by decide) (len_at rfl (by decide)) rfl rfl (mx_da t_X0_init 4 rfl) rfl ?_
  rw [nm_new (k := 35) (N := 40) (a := 600093) (b := 7297381) (a2 := 600092) (b2 := 7297341) rfl (by decide) rfl rfl]
  show mx_W _ _ 9 [.ref 35] [.ref 36, .ref 35] (nmT 36 In_54 Jn_37 Rn_70 600092 7297341 (L, xs)) _
  refine mx_putFR (ci := 0) (j := 0) _ rfl (by decide) ifl_RX0_9 rfl rfl rfl rfl (shp_at rfl (by decide) rfl) (by rw [len_at (k := 36) rfl (by decide)]; decide) (mx_da t_X0_init 5 rfl) rfl ?_
  show mx_W _ _ 12 [.ref 35] [] (nmT 36 In_54 Jn_37 Rn_71 600092 7297341 (L, xs)) _
  refine mx_aload_n 0 (mx_da t_X0_init 6 rfl) rfl rfl rfl rfl ?_
  refine mx_iconst (v := 0) (mx_da t_X0_init 7 rfl) rfl rfl ?_
  refine mx_putI fs_RX0_15 rfl (shp_at rfl (by decide) rfl) rfl rfl rfl (mx_da t_X0_init 8 rfl) rfl ?_
  show mx_W _ _ 17 [.ref 35] [] (nmT 36 In_55 Jn_37 Rn_71 600092 7297341 (L, xs)) _
  exact mx_vret rfl (mx_da t_X0_init 9 rfl) k
theorem ifl_RX10_47 : Cond.fieldLink RX10 47 "MeerDrawers" "acts" "LMeerDrawers$Acts;" ∈ lw_tbl := tb_2 _ (List.mem_of_getElem? (i := 82) rfl)
def Rn_72 : Nat → Nat → Nat := mx_up Rn_71 1 5 35
def In_56 : Nat → Nat → Int32 := mx_zr In_55 37 0
def Jn_38 : Nat → Nat → Int64 := mx_zr Jn_37 37 0
def Rn_73 : Nat → Nat → Nat := mx_zr Rn_72 37 0
def In_57 : Nat → Nat → Int32 := mx_zr In_56 38 0
def Jn_39 : Nat → Nat → Int64 := mx_zr Jn_38 38 0
def Rn_74 : Nat → Nat → Nat := mx_zr Rn_73 38 0
def Rn_75 : Nat → Nat → Nat := mx_up Rn_74 37 0 38
def In_58 : Nat → Nat → Int32 := mx_up In_57 37 1 0
set_option maxHeartbeats 4000000 in
theorem in_37 {d : Nat} {Q : mx_O → mx_M → Prop} (L : Nat) (xs : Nat → Int32) (k : Q (.inl none) (nmT 38 In_58 Jn_39 Rn_75 600090 7297299 (L, xs))) : mx_W m_X0_init (d + 4) 0 [.ref 37] [] (nmT 37 In_56 Jn_38 Rn_73 600091 7297339 (L, xs)) Q := by
  refine mx_aload_n 0 (mx_da t_X0_init 0 rfl) rfl rfl rfl rfl ?_
  refine mx_objInit iml_RX0_3 ioi_in ioi_cd (by decide) (mx_da t_X0_init 1 rfl) rfl ?_
  refine mx_aload_n 0 (mx_da t_X0_init 2 rfl) rfl rfl rfl rfl ?_
  refine mx_bipush (v := 40) (mx_da t_X0_init 3 rfl) rfl rfl ?_
  refine mx_newA (ty := .long) 37 40 rfl (Or.inr (Or.inl rfl)) iac_long (by decide) (by decide) (by decide) (show 1 ≤ 600091 by decide) (show 40 ≤ 7297339 by decide) (len_at rfl (by decide)) rfl rfl (mx_da t_X0_init 4 rfl) rfl ?_
  rw [nm_new (k := 37) (N := 40) (a := 600091) (b := 7297339) (a2 := 600090) (b2 := 7297299) rfl (by decide) rfl rfl]
  show mx_W _ _ 9 [.ref 37] [.ref 38, .ref 37] (nmT 38 In_57 Jn_39 Rn_74 600090 7297299 (L, xs)) _
  refine mx_putFR (ci := 0) (j := 0) _ rfl (by decide) ifl_RX0_9 rfl rfl rfl rfl (shp_at rfl (by decide) rfl) (by rw [len_at (k := 38) rfl (by decide)]; decide) (mx_da t_X0_init 5 rfl) rfl ?_
  show mx_W _ _ 12 [.ref 37] [] (nmT 38 In_57 Jn_39 Rn_75 600090 7297299 (L, xs)) _
  refine mx_aload_n 0 (mx_da t_X0_init 6 rfl) rfl rfl rfl rfl ?_
  refine mx_iconst (v := 0) (mx_da t_X0_init 7 rfl) rfl rfl ?_
  refine mx_putI fs_RX0_15 rfl (shp_at rfl (by decide) rfl) rfl rfl rfl (mx_da t_X0_init 8 rfl) rfl ?_
  show mx_W _ _ 17 [.ref 37] [] (nmT 38 In_58 Jn_39 Rn_75 600090 7297299 (L, xs)) _
  exact mx_vret rfl (mx_da t_X0_init 9 rfl) k
theorem ifl_RX10_51 : Cond.fieldLink RX10 51 "MeerDrawers" "imageActs" "LMeerDrawers$Acts;" ∈ lw_tbl := tb_2 _ (List.mem_of_getElem? (i := 83) rfl)
def Rn_76 : Nat → Nat → Nat := mx_up Rn_75 1 6 37
theorem icl_RX10_54 : Cond.classLink RX10 54 RX2 ∈ lw_tbl := tb_2 _ (List.mem_of_getElem? (i := 50) rfl)
theorem iin_RX2 : Cond.instantiable RX2 5 ∈ lw_tbl := tb_2 _ (List.mem_of_getElem? (i := 51) rfl)
theorem ini_RX2 : Cond.initialized RX2 ∈ lw_tbl := tb_1 _ (List.mem_of_getElem? (i := 10) rfl)
def In_59 : Nat → Nat → Int32 := mx_zr In_58 39 0
def Jn_40 : Nat → Nat → Int64 := mx_zr Jn_39 39 0
def Rn_77 : Nat → Nat → Nat := mx_zr Rn_76 39 0
theorem iml_RX10_56 : Cond.methodLinkNest RX10 56 yX2_init "MeerDrawers" ∈ lw_tbl := tb_2 _ (List.mem_of_getElem? (i := 52) rfl)
theorem iml_RX2_3 : Cond.methodLink RX2 3 Lib.objectInit ∈ lw_tbl := tb_2 _ (List.mem_of_getElem? (i := 55) rfl)
def In_60 : Nat → Nat → Int32 := mx_zr In_59 40 0
def Jn_41 : Nat → Nat → Int64 := mx_zr Jn_40 40 0
def Rn_78 : Nat → Nat → Nat := mx_zr Rn_77 40 0
theorem ifl_RX2_9 : Cond.fieldLink RX2 9 "MeerDrawers$Compromise" "hurts" "[I" ∈ lw_tbl := tb_2 _ (List.mem_of_getElem? (i := 56) rfl)
def Rn_79 : Nat → Nat → Nat := mx_up Rn_78 39 0 40
def In_61 : Nat → Nat → Int32 := mx_zr In_60 41 0
def Jn_42 : Nat → Nat → Int64 := mx_zr Jn_41 41 0
def Rn_80 : Nat → Nat → Nat := mx_zr Rn_79 41 0
theorem ifl_RX2_15 : Cond.fieldLink RX2 15 "MeerDrawers$Compromise" "fewest" "[I" ∈ lw_tbl := tb_2 _ (List.mem_of_getElem? (i := 57) rfl)
def Rn_81 : Nat → Nat → Nat := mx_up Rn_80 39 1 41
def In_62 : Nat → Nat → Int32 := mx_zr In_61 42 0
def Jn_43 : Nat → Nat → Int64 := mx_zr Jn_42 42 0
def Rn_82 : Nat → Nat → Nat := mx_zr Rn_81 42 0
theorem ifl_RX2_18 : Cond.fieldLink RX2 18 "MeerDrawers$Compromise" "row" "[I" ∈ lw_tbl := tb_2 _ (List.mem_of_getElem? (i := 58) rfl)
def Rn_83 : Nat → Nat → Nat := mx_up Rn_82 39 2 42
def In_63 : Nat → Nat → Int32 := mx_up In_62 39 3 0
def In_64 : Nat → Nat → Int32 := mx_up In_63 39 4 0
set_option maxHeartbeats 4000000 in
theorem in_39 {d : Nat} {Q : mx_O → mx_M → Prop} (L : Nat) (xs : Nat → Int32) (k : Q (.inl none) (nmT 42 In_64 Jn_43 Rn_83 600086 7296160 (L, xs))) : mx_W m_X2_init (d + 4) 0 [.ref 39] [] (nmT 39 In_59 Jn_40 Rn_77 600089 7297294 (L, xs)) Q := by
  refine mx_aload_n 0 (mx_da t_X2_init 0 rfl) rfl rfl rfl rfl ?_
  refine mx_objInit iml_RX2_3 ioi_in ioi_cd (by decide) (mx_da t_X2_init 1 rfl) rfl ?_
  refine mx_aload_n 0 (mx_da t_X2_init 2 rfl) rfl rfl rfl rfl ?_
  refine mx_bipush (v := 100) (mx_da t_X2_init 3 rfl) rfl rfl ?_
  refine mx_newA (ty := .int) 39 100 rfl (Or.inl rfl) iac_int (by decide) (by decide) (by decide) (show 1 ≤ 600089 by decide) (show 100 ≤ 7297294 by decide) (len_at rfl (by decide)) rfl rfl (mx_da t_X2_init 4 rfl) rfl ?_
  rw [nm_new (k := 39) (N := 100) (a := 600089) (b := 7297294) (a2 := 600088) (b2 := 7297194) rfl (by decide) rfl rfl]
  show mx_W _ _ 9 [.ref 39] [.ref 40, .ref 39] (nmT 40 In_60 Jn_41 Rn_78 600088 7297194 (L, xs)) _
  refine mx_putFR (ci := 2) (j := 0) _ rfl (by decide) ifl_RX2_9 rfl rfl rfl rfl (shp_at rfl (by decide) rfl) (by rw [len_at (k := 40) rfl (by decide)]; decide) (mx_da t_X2_init 5 rfl) rfl ?_
  show mx_W _ _ 12 [.ref 39] [] (nmT 40 In_60 Jn_41 Rn_79 600088 7297194 (L, xs)) _
  refine mx_aload_n 0 (mx_da t_X2_init 6 rfl) rfl rfl rfl rfl ?_
  refine mx_sipush (v := 1024) (mx_da t_X2_init 7 rfl) rfl rfl ?_
  refine mx_newA (ty := .int) 40 1024 rfl (Or.inl rfl) iac_int (by decide) (by decide) (by decide) (show 1 ≤ 600088 by decide) (show 1024 ≤ 7297194 by decide) (len_at rfl (by decide)) rfl rfl (mx_da t_X2_init 8 rfl) rfl ?_
  rw [nm_new (k := 40) (N := 1024) (a := 600088) (b := 7297194) (a2 := 600087) (b2 := 7296170) rfl (by decide) rfl rfl]
  show mx_W _ _ 18 [.ref 39] [.ref 41, .ref 39] (nmT 41 In_61 Jn_42 Rn_80 600087 7296170 (L, xs)) _
  refine mx_putFR (ci := 2) (j := 1) _ rfl (by decide) ifl_RX2_15 rfl rfl rfl rfl (shp_at rfl (by decide) rfl) (by rw [len_at (k := 41) rfl (by decide)]; decide) (mx_da t_X2_init 9 rfl) rfl ?_
  show mx_W _ _ 21 [.ref 39] [] (nmT 41 In_61 Jn_42 Rn_81 600087 7296170 (L, xs)) _
  refine mx_aload_n 0 (mx_da t_X2_init 10 rfl) rfl rfl rfl rfl ?_
  refine mx_bipush (v := 10) (mx_da t_X2_init 11 rfl) rfl rfl ?_
  refine mx_newA (ty := .int) 41 10 rfl (Or.inl rfl) iac_int (by decide) (by decide) (by decide) (show 1 ≤ 600087 by decide) (show 10 ≤ 7296170 by decide) (len_at rfl (by decide)) rfl rfl (mx_da t_X2_init 12 rfl) rfl ?_
  rw [nm_new (k := 41) (N := 10) (a := 600087) (b := 7296170) (a2 := 600086) (b2 := 7296160) rfl (by decide) rfl rfl]
  show mx_W _ _ 26 [.ref 39] [.ref 42, .ref 39] (nmT 42 In_62 Jn_43 Rn_82 600086 7296160 (L, xs)) _
  refine mx_putFR (ci := 2) (j := 2) _ rfl (by decide) ifl_RX2_18 rfl rfl rfl rfl (shp_at rfl (by decide) rfl) (by rw [len_at (k := 42) rfl (by decide)]; decide) (mx_da t_X2_init 13 rfl) rfl ?_
  show mx_W _ _ 29 [.ref 39] [] (nmT 42 In_62 Jn_43 Rn_83 600086 7296160 (L, xs)) _
  refine mx_aload_n 0 (mx_da t_X2_init 14 rfl) rfl rfl rfl rfl ?_
  refine mx_iconst (v := 0) (mx_da t_X2_init 15 rfl) rfl rfl ?_
  refine mx_putI fs_RX2_21 rfl (shp_at rfl (by decide) rfl) rfl rfl rfl (mx_da t_X2_init 16 rfl) rfl ?_
  show mx_W _ _ 34 [.ref 39] [] (nmT 42 In_63 Jn_43 Rn_83 600086 7296160 (L, xs)) _
  refine mx_aload_n 0 (mx_da t_X2_init 17 rfl) rfl rfl rfl rfl ?_
  refine mx_iconst (v := 0) (mx_da t_X2_init 18 rfl) rfl rfl ?_
  refine mx_putI fs_RX2_25 rfl (shp_at rfl (by decide) rfl) rfl rfl rfl (mx_da t_X2_init 19 rfl) rfl ?_
  show mx_W _ _ 39 [.ref 39] [] (nmT 42 In_64 Jn_43 Rn_83 600086 7296160 (L, xs)) _
  exact mx_vret rfl (mx_da t_X2_init 20 rfl) k
theorem ifl_RX10_57 : Cond.fieldLink RX10 57 "MeerDrawers" "middle" "LMeerDrawers$Compromise;" ∈ lw_tbl := tb_2 _ (List.mem_of_getElem? (i := 84) rfl)
def Rn_84 : Nat → Nat → Nat := mx_up Rn_83 1 7 39
def In_65 : Nat → Nat → Int32 := mx_zr In_64 43 0
def Jn_44 : Nat → Nat → Int64 := mx_zr Jn_43 43 0
def Rn_85 : Nat → Nat → Nat := mx_zr Rn_84 43 0
theorem ifl_RX10_61 : Cond.fieldLink RX10 61 "MeerDrawers" "stayRow" "[I" ∈ lw_tbl := tb_2 _ (List.mem_of_getElem? (i := 85) rfl)
def Rn_86 : Nat → Nat → Nat := mx_up Rn_85 1 8 43
def In_66 : Nat → Nat → Int32 := mx_zr In_65 44 0
def Jn_45 : Nat → Nat → Int64 := mx_zr Jn_44 44 0
def Rn_87 : Nat → Nat → Nat := mx_zr Rn_86 44 0
theorem ifl_RX10_65 : Cond.fieldLink RX10 65 "MeerDrawers" "lengths" "[I" ∈ lw_tbl := tb_2 _ (List.mem_of_getElem? (i := 86) rfl)
def Rn_88 : Nat → Nat → Nat := mx_up Rn_87 1 9 44
theorem icl_RX10_68 : Cond.classLink RX10 68 RX1 ∈ lw_tbl := tb_2 _ (List.mem_of_getElem? (i := 75) rfl)
def In_67 : Nat → Nat → Int32 := mx_zr In_66 45 0
def Jn_46 : Nat → Nat → Int64 := mx_zr Jn_45 45 0
def Rn_89 : Nat → Nat → Nat := mx_zr Rn_88 45 0
theorem iml_RX10_70 : Cond.methodLinkNest RX10 70 yX1_init "MeerDrawers" ∈ lw_tbl := tb_2 _ (List.mem_of_getElem? (i := 76) rfl)
def In_68 : Nat → Nat → Int32 := mx_zr In_67 46 0
def Jn_47 : Nat → Nat → Int64 := mx_zr Jn_46 46 0
def Rn_90 : Nat → Nat → Nat := mx_zr Rn_89 46 0
def Rn_91 : Nat → Nat → Nat := mx_up Rn_90 45 0 46
def In_69 : Nat → Nat → Int32 := mx_zr In_68 47 0
def Jn_48 : Nat → Nat → Int64 := mx_zr Jn_47 47 0
def Rn_92 : Nat → Nat → Nat := mx_zr Rn_91 47 0
def Rn_93 : Nat → Nat → Nat := mx_up Rn_92 45 1 47
def In_70 : Nat → Nat → Int32 := mx_zr In_69 48 0
def Jn_49 : Nat → Nat → Int64 := mx_zr Jn_48 48 0
def Rn_94 : Nat → Nat → Nat := mx_zr Rn_93 48 0
def Rn_95 : Nat → Nat → Nat := mx_up Rn_94 45 2 48
def In_71 : Nat → Nat → Int32 := mx_zr In_70 49 0
def Jn_50 : Nat → Nat → Int64 := mx_zr Jn_49 49 0
def Rn_96 : Nat → Nat → Nat := mx_zr Rn_95 49 0
def Rn_97 : Nat → Nat → Nat := mx_up Rn_96 45 3 49
def In_72 : Nat → Nat → Int32 := mx_zr In_71 50 0
def Jn_51 : Nat → Nat → Int64 := mx_zr Jn_50 50 0
def Rn_98 : Nat → Nat → Nat := mx_zr Rn_97 50 0
def Rn_99 : Nat → Nat → Nat := mx_up Rn_98 45 4 50
def In_73 : Nat → Nat → Int32 := mx_zr In_72 51 0
def Jn_52 : Nat → Nat → Int64 := mx_zr Jn_51 51 0
def Rn_100 : Nat → Nat → Nat := mx_zr Rn_99 51 0
def Rn_101 : Nat → Nat → Nat := mx_up Rn_100 45 5 51
def In_74 : Nat → Nat → Int32 := mx_zr In_73 52 0
def Jn_53 : Nat → Nat → Int64 := mx_zr Jn_52 52 0
def Rn_102 : Nat → Nat → Nat := mx_zr Rn_101 52 0
def Rn_103 : Nat → Nat → Nat := mx_up Rn_102 45 6 52
def In_75 : Nat → Nat → Int32 := mx_zr In_74 53 0
def Jn_54 : Nat → Nat → Int64 := mx_zr Jn_53 53 0
def Rn_104 : Nat → Nat → Nat := mx_zr Rn_103 53 0
def Rn_105 : Nat → Nat → Nat := mx_up Rn_104 45 7 53
def In_76 : Nat → Nat → Int32 := mx_zr In_75 54 0
def Jn_55 : Nat → Nat → Int64 := mx_zr Jn_54 54 0
def Rn_106 : Nat → Nat → Nat := mx_zr Rn_105 54 0
def Rn_107 : Nat → Nat → Nat := mx_up Rn_106 45 8 54
def In_77 : Nat → Nat → Int32 := mx_zr In_76 55 0
def Jn_56 : Nat → Nat → Int64 := mx_zr Jn_55 55 0
def Rn_108 : Nat → Nat → Nat := mx_zr Rn_107 55 0
def Rn_109 : Nat → Nat → Nat := mx_up Rn_108 45 9 55
def In_78 : Nat → Nat → Int32 := mx_zr In_77 56 0
def Jn_57 : Nat → Nat → Int64 := mx_zr Jn_56 56 0
def Rn_110 : Nat → Nat → Nat := mx_zr Rn_109 56 0
def Rn_111 : Nat → Nat → Nat := mx_up Rn_110 45 10 56
def In_79 : Nat → Nat → Int32 := mx_zr In_78 57 0
def Jn_58 : Nat → Nat → Int64 := mx_zr Jn_57 57 0
def Rn_112 : Nat → Nat → Nat := mx_zr Rn_111 57 0
def Rn_113 : Nat → Nat → Nat := mx_up Rn_112 45 11 57
def In_80 : Nat → Nat → Int32 := mx_up In_79 45 12 0
def In_81 : Nat → Nat → Int32 := mx_up In_80 45 13 0
set_option maxHeartbeats 4000000 in
theorem in_45 {d : Nat} {Q : mx_O → mx_M → Prop} (L : Nat) (xs : Nat → Int32) (k : Q (.inl none) (nmT 57 In_81 Jn_58 Rn_113 600071 7295904 (L, xs))) : mx_W m_X1_init (d + 4) 0 [.ref 45] [] (nmT 45 In_67 Jn_46 Rn_89 600083 7296126 (L, xs)) Q := by
  refine mx_aload_n 0 (mx_da t_X1_init 0 rfl) rfl rfl rfl rfl ?_
  refine mx_objInit iml_RX1_3 ioi_in ioi_cd (by decide) (mx_da t_X1_init 1 rfl) rfl ?_
  refine mx_aload_n 0 (mx_da t_X1_init 2 rfl) rfl rfl rfl rfl ?_
  refine mx_bipush (v := 10) (mx_da t_X1_init 3 rfl) rfl rfl ?_
  refine mx_newA (ty := .int) 45 10 rfl (Or.inl rfl) iac_int (by decide) (by decide) (by decide) (show 1 ≤ 600083 by decide) (show 10 ≤ 7296126 by decide) (len_at rfl (by decide)) rfl rfl (mx_da t_X1_init 4 rfl) rfl ?_
  rw [nm_new (k := 45) (N := 10) (a := 600083) (b := 7296126) (a2 := 600082) (b2 := 7296116) rfl (by decide) rfl rfl]
  show mx_W _ _ 9 [.ref 45] [.ref 46, .ref 45] (nmT 46 In_68 Jn_47 Rn_90 600082 7296116 (L, xs)) _
  refine mx_putFR (ci := 1) (j := 0) _ rfl (by decide) ifl_RX1_9 rfl rfl rfl rfl (shp_at rfl (by decide) rfl) (by rw [len_at (k := 46) rfl (by decide)]; decide) (mx_da t_X1_init 5 rfl) rfl ?_
  show mx_W _ _ 12 [.ref 45] [] (nmT 46 In_68 Jn_47 Rn_91 600082 7296116 (L, xs)) _
  refine mx_aload_n 0 (mx_da t_X1_init 6 rfl) rfl rfl rfl rfl ?_
  refine mx_bipush (v := 10) (mx_da t_X1_init 7 rfl) rfl rfl ?_
  refine mx_newA (ty := .int) 46 10 rfl (Or.inl rfl) iac_int (by decide) (by decide) (by decide) (show 1 ≤ 600082 by decide) (show 10 ≤ 7296116 by decide) (len_at rfl (by decide)) rfl rfl (mx_da t_X1_init 8 rfl) rfl ?_
  rw [nm_new (k := 46) (N := 10) (a := 600082) (b := 7296116) (a2 := 600081) (b2 := 7296106) rfl (by decide) rfl rfl]
  show mx_W _ _ 17 [.ref 45] [.ref 47, .ref 45] (nmT 47 In_69 Jn_48 Rn_92 600081 7296106 (L, xs)) _
  refine mx_putFR (ci := 1) (j := 1) _ rfl (by decide) ifl_RX1_15 rfl rfl rfl rfl (shp_at rfl (by decide) rfl) (by rw [len_at (k := 47) rfl (by decide)]; decide) (mx_da t_X1_init 9 rfl) rfl ?_
  show mx_W _ _ 20 [.ref 45] [] (nmT 47 In_69 Jn_48 Rn_93 600081 7296106 (L, xs)) _
  refine mx_aload_n 0 (mx_da t_X1_init 10 rfl) rfl rfl rfl rfl ?_
  refine mx_bipush (v := 10) (mx_da t_X1_init 11 rfl) rfl rfl ?_
  refine mx_newA (ty := .int) 47 10 rfl (Or.inl rfl) iac_int (by decide) (by decide) (by decide) (show 1 ≤ 600081 by decide) (show 10 ≤ 7296106 by decide) (len_at rfl (by decide)) rfl rfl (mx_da t_X1_init 12 rfl) rfl ?_
  rw [nm_new (k := 47) (N := 10) (a := 600081) (b := 7296106) (a2 := 600080) (b2 := 7296096) rfl (by decide) rfl rfl]
  show mx_W _ _ 25 [.ref 45] [.ref 48, .ref 45] (nmT 48 In_70 Jn_49 Rn_94 600080 7296096 (L, xs)) _
  refine mx_putFR (ci := 1) (j := 2) _ rfl (by decide) ifl_RX1_18 rfl rfl rfl rfl (shp_at rfl (by decide) rfl) (by rw [len_at (k := 48) rfl (by decide)]; decide) (mx_da t_X1_init 13 rfl) rfl ?_
  show mx_W _ _ 28 [.ref 45] [] (nmT 48 In_70 Jn_49 Rn_95 600080 7296096 (L, xs)) _
  refine mx_aload_n 0 (mx_da t_X1_init 14 rfl) rfl rfl rfl rfl ?_
  refine mx_bipush (v := 40) (mx_da t_X1_init 15 rfl) rfl rfl ?_
  refine mx_newA (ty := .long) 48 40 rfl (Or.inr (Or.inl rfl)) iac_long (by decide) (by decide) (by decide) (show 1 ≤ 600080 by decide) (show 40 ≤ 7296096 by decide) (len_at rfl (by decide)) rfl rfl (mx_da t_X1_init 16 rfl) rfl ?_
  rw [nm_new (k := 48) (N := 40) (a := 600080) (b := 7296096) (a2 := 600079) (b2 := 7296056) rfl (by decide) rfl rfl]
  show mx_W _ _ 33 [.ref 45] [.ref 49, .ref 45] (nmT 49 In_71 Jn_50 Rn_96 600079 7296056 (L, xs)) _
  refine mx_putFR (ci := 1) (j := 3) _ rfl (by decide) ifl_RX1_21 rfl rfl rfl rfl (shp_at rfl (by decide) rfl) (by rw [len_at (k := 49) rfl (by decide)]; decide) (mx_da t_X1_init 17 rfl) rfl ?_
  show mx_W _ _ 36 [.ref 45] [] (nmT 49 In_71 Jn_50 Rn_97 600079 7296056 (L, xs)) _
  refine mx_aload_n 0 (mx_da t_X1_init 18 rfl) rfl rfl rfl rfl ?_
  refine mx_iconst (v := 4) (mx_da t_X1_init 19 rfl) rfl rfl ?_
  refine mx_newA (ty := .int) 49 4 rfl (Or.inl rfl) iac_int (by decide) (by decide) (by decide) (show 1 ≤ 600079 by decide) (show 4 ≤ 7296056 by decide) (len_at rfl (by decide)) rfl rfl (mx_da t_X1_init 20 rfl) rfl ?_
  rw [nm_new (k := 49) (N := 4) (a := 600079) (b := 7296056) (a2 := 600078) (b2 := 7296052) rfl (by decide) rfl rfl]
  show mx_W _ _ 40 [.ref 45] [.ref 50, .ref 45] (nmT 50 In_72 Jn_51 Rn_98 600078 7296052 (L, xs)) _
  refine mx_putFR (ci := 1) (j := 4) _ rfl (by decide) ifl_RX1_25 rfl rfl rfl rfl (shp_at rfl (by decide) rfl) (by rw [len_at (k := 50) rfl (by decide)]; decide) (mx_da t_X1_init 21 rfl) rfl ?_
  show mx_W _ _ 43 [.ref 45] [] (nmT 50 In_72 Jn_51 Rn_99 600078 7296052 (L, xs)) _
  refine mx_aload_n 0 (mx_da t_X1_init 22 rfl) rfl rfl rfl rfl ?_
  refine mx_bipush (v := 32) (mx_da t_X1_init 23 rfl) rfl rfl ?_
  refine mx_newA (ty := .int) 50 32 rfl (Or.inl rfl) iac_int (by decide) (by decide) (by decide) (show 1 ≤ 600078 by decide) (show 32 ≤ 7296052 by decide) (len_at rfl (by decide)) rfl rfl (mx_da t_X1_init 24 rfl) rfl ?_
  rw [nm_new (k := 50) (N := 32) (a := 600078) (b := 7296052) (a2 := 600077) (b2 := 7296020) rfl (by decide) rfl rfl]
  show mx_W _ _ 48 [.ref 45] [.ref 51, .ref 45] (nmT 51 In_73 Jn_52 Rn_100 600077 7296020 (L, xs)) _
  refine mx_putFR (ci := 1) (j := 5) _ rfl (by decide) ifl_RX1_28 rfl rfl rfl rfl (shp_at rfl (by decide) rfl) (by rw [len_at (k := 51) rfl (by decide)]; decide) (mx_da t_X1_init 25 rfl) rfl ?_
  show mx_W _ _ 51 [.ref 45] [] (nmT 51 In_73 Jn_52 Rn_101 600077 7296020 (L, xs)) _
  refine mx_aload_n 0 (mx_da t_X1_init 26 rfl) rfl rfl rfl rfl ?_
  refine mx_bipush (v := 32) (mx_da t_X1_init 27 rfl) rfl rfl ?_
  refine mx_newA (ty := .long) 51 32 rfl (Or.inr (Or.inl rfl)) iac_long (by decide) (by decide) (by decide) (show 1 ≤ 600077 by decide) (show 32 ≤ 7296020 by decide) (len_at rfl (by decide)) rfl rfl (mx_da t_X1_init 28 rfl) rfl ?_
  rw [nm_new (k := 51) (N := 32) (a := 600077) (b := 7296020) (a2 := 600076) (b2 := 7295988) rfl (by decide) rfl rfl]
  show mx_W _ _ 56 [.ref 45] [.ref 52, .ref 45] (nmT 52 In_74 Jn_53 Rn_102 600076 7295988 (L, xs)) _
  refine mx_putFR (ci := 1) (j := 6) _ rfl (by decide) ifl_RX1_31 rfl rfl rfl rfl (shp_at rfl (by decide) rfl) (by rw [len_at (k := 52) rfl (by decide)]; decide) (mx_da t_X1_init 29 rfl) rfl ?_
  show mx_W _ _ 59 [.ref 45] [] (nmT 52 In_74 Jn_53 Rn_103 600076 7295988 (L, xs)) _
  refine mx_aload_n 0 (mx_da t_X1_init 30 rfl) rfl rfl rfl rfl ?_
  refine mx_bipush (v := 32) (mx_da t_X1_init 31 rfl) rfl rfl ?_
  refine mx_newA (ty := .long) 52 32 rfl (Or.inr (Or.inl rfl)) iac_long (by decide) (by decide) (by decide) (show 1 ≤ 600076 by decide) (show 32 ≤ 7295988 by decide) (len_at rfl (by decide)) rfl rfl (mx_da t_X1_init 32 rfl) rfl ?_
  rw [nm_new (k := 52) (N := 32) (a := 600076) (b := 7295988) (a2 := 600075) (b2 := 7295956) rfl (by decide) rfl rfl]
  show mx_W _ _ 64 [.ref 45] [.ref 53, .ref 45] (nmT 53 In_75 Jn_54 Rn_104 600075 7295956 (L, xs)) _
  refine mx_putFR (ci := 1) (j := 7) _ rfl (by decide) ifl_RX1_34 rfl rfl rfl rfl (shp_at rfl (by decide) rfl) (by rw [len_at (k := 53) rfl (by decide)]; decide) (mx_da t_X1_init 33 rfl) rfl ?_
  show mx_W _ _ 67 [.ref 45] [] (nmT 53 In_75 Jn_54 Rn_105 600075 7295956 (L, xs)) _
  refine mx_aload_n 0 (mx_da t_X1_init 34 rfl) rfl rfl rfl rfl ?_
  refine mx_iconst (v := 4) (mx_da t_X1_init 35 rfl) rfl rfl ?_
  refine mx_newA (ty := .boolean) 53 4 rfl (Or.inr (Or.inr (Or.inr rfl))) iac_boolean (by decide) (by decide) (by decide) (show 1 ≤ 600075 by decide) (show 4 ≤ 7295956 by decide) (len_at rfl (by decide)) rfl rfl (mx_da t_X1_init 36 rfl) rfl ?_
  rw [nm_new (k := 53) (N := 4) (a := 600075) (b := 7295956) (a2 := 600074) (b2 := 7295952) rfl (by decide) rfl rfl]
  show mx_W _ _ 71 [.ref 45] [.ref 54, .ref 45] (nmT 54 In_76 Jn_55 Rn_106 600074 7295952 (L, xs)) _
  refine mx_putFR (ci := 1) (j := 8) _ rfl (by decide) ifl_RX1_37 rfl rfl rfl rfl (shp_at rfl (by decide) rfl) (by rw [len_at (k := 54) rfl (by decide)]; decide) (mx_da t_X1_init 37 rfl) rfl ?_
  show mx_W _ _ 74 [.ref 45] [] (nmT 54 In_76 Jn_55 Rn_107 600074 7295952 (L, xs)) _
  refine mx_aload_n 0 (mx_da t_X1_init 38 rfl) rfl rfl rfl rfl ?_
  refine mx_iconst (v := 4) (mx_da t_X1_init 39 rfl) rfl rfl ?_
  refine mx_newA (ty := .boolean) 54 4 rfl (Or.inr (Or.inr (Or.inr rfl))) iac_boolean (by decide) (by decide) (by decide) (show 1 ≤ 600074 by decide) (show 4 ≤ 7295952 by decide) (len_at rfl (by decide)) rfl rfl (mx_da t_X1_init 40 rfl) rfl ?_
  rw [nm_new (k := 54) (N := 4) (a := 600074) (b := 7295952) (a2 := 600073) (b2 := 7295948) rfl (by decide) rfl rfl]
  show mx_W _ _ 78 [.ref 45] [.ref 55, .ref 45] (nmT 55 In_77 Jn_56 Rn_108 600073 7295948 (L, xs)) _
  refine mx_putFR (ci := 1) (j := 9) _ rfl (by decide) ifl_RX1_41 rfl rfl rfl rfl (shp_at rfl (by decide) rfl) (by rw [len_at (k := 55) rfl (by decide)]; decide) (mx_da t_X1_init 41 rfl) rfl ?_
  show mx_W _ _ 81 [.ref 45] [] (nmT 55 In_77 Jn_56 Rn_109 600073 7295948 (L, xs)) _
  refine mx_aload_n 0 (mx_da t_X1_init 42 rfl) rfl rfl rfl rfl ?_
  refine mx_iconst (v := 4) (mx_da t_X1_init 43 rfl) rfl rfl ?_
  refine mx_newA (ty := .boolean) 55 4 rfl (Or.inr (Or.inr (Or.inr rfl))) iac_boolean (by decide) (by decide) (by decide) (show 1 ≤ 600073 by decide) (show 4 ≤ 7295948 by decide) (len_at rfl (by decide)) rfl rfl (mx_da t_X1_init 44 rfl) rfl ?_
  rw [nm_new (k := 55) (N := 4) (a := 600073) (b := 7295948) (a2 := 600072) (b2 := 7295944) rfl (by decide) rfl rfl]
  show mx_W _ _ 85 [.ref 45] [.ref 56, .ref 45] (nmT 56 In_78 Jn_57 Rn_110 600072 7295944 (L, xs)) _
  refine mx_putFR (ci := 1) (j := 10) _ rfl (by decide) ifl_RX1_44 rfl rfl rfl rfl (shp_at rfl (by decide) rfl) (by rw [len_at (k := 56) rfl (by decide)]; decide) (mx_da t_X1_init 45 rfl) rfl ?_
  show mx_W _ _ 88 [.ref 45] [] (nmT 56 In_78 Jn_57 Rn_111 600072 7295944 (L, xs)) _
  refine mx_aload_n 0 (mx_da t_X1_init 46 rfl) rfl rfl rfl rfl ?_
  refine mx_bipush (v := 40) (mx_da t_X1_init 47 rfl) rfl rfl ?_
  refine mx_newA (ty := .int) 56 40 rfl (Or.inl rfl) iac_int (by decide) (by decide) (by decide) (show 1 ≤ 600072 by decide) (show 40 ≤ 7295944 by decide) (len_at rfl (by decide)) rfl rfl (mx_da t_X1_init 48 rfl) rfl ?_
  rw [nm_new (k := 56) (N := 40) (a := 600072) (b := 7295944) (a2 := 600071) (b2 := 7295904) rfl (by decide) rfl rfl]
  show mx_W _ _ 93 [.ref 45] [.ref 57, .ref 45] (nmT 57 In_79 Jn_58 Rn_112 600071 7295904 (L, xs)) _
  refine mx_putFR (ci := 1) (j := 11) _ rfl (by decide) ifl_RX1_47 rfl rfl rfl rfl (shp_at rfl (by decide) rfl) (by rw [len_at (k := 57) rfl (by decide)]; decide) (mx_da t_X1_init 49 rfl) rfl ?_
  show mx_W _ _ 96 [.ref 45] [] (nmT 57 In_79 Jn_58 Rn_113 600071 7295904 (L, xs)) _
  refine mx_aload_n 0 (mx_da t_X1_init 50 rfl) rfl rfl rfl rfl ?_
  refine mx_iconst (v := 0) (mx_da t_X1_init 51 rfl) rfl rfl ?_
  refine mx_putI fs_RX1_50 rfl (shp_at rfl (by decide) rfl) rfl rfl rfl (mx_da t_X1_init 52 rfl) rfl ?_
  show mx_W _ _ 101 [.ref 45] [] (nmT 57 In_80 Jn_58 Rn_113 600071 7295904 (L, xs)) _
  refine mx_aload_n 0 (mx_da t_X1_init 53 rfl) rfl rfl rfl rfl ?_
  refine mx_iconst (v := 0) (mx_da t_X1_init 54 rfl) rfl rfl ?_
  refine mx_putI fs_RX1_54 rfl (shp_at rfl (by decide) rfl) rfl rfl rfl (mx_da t_X1_init 55 rfl) rfl ?_
  show mx_W _ _ 106 [.ref 45] [] (nmT 57 In_81 Jn_58 Rn_113 600071 7295904 (L, xs)) _
  exact mx_vret rfl (mx_da t_X1_init 56 rfl) k
def Rn_114 : Nat → Nat → Nat := mx_up Rn_113 1 10 45
def In_82 : Nat → Nat → Int32 := mx_up In_81 1 11 0
def In_83 : Nat → Nat → Int32 := mx_up In_82 1 12 0
def Jn_59 : Nat → Nat → Int64 := mx_up Jn_58 1 13 0
def In_84 : Nat → Nat → Int32 := mx_up In_83 1 14 (-1)
def In_85 : Nat → Nat → Int32 := mx_up In_84 1 15 0
def In_86 : Nat → Nat → Int32 := mx_up In_85 1 16 0
set_option maxHeartbeats 4000000 in
theorem in_1 {d : Nat} {Q : mx_O → mx_M → Prop} (L : Nat) (xs : Nat → Int32) (k : Q (.inl none) (nmT 57 In_86 Jn_59 Rn_114 600071 7295904 (L, xs))) : mx_W m_X10_init (d + 5) 0 [.ref 1] [] (nmT 1 In_1 Jn_1 Rn_1 600127 7301081 (L, xs)) Q := by
  refine mx_aload_n 0 (mx_da t_X10_init 0 rfl) rfl rfl rfl rfl ?_
  refine mx_objInit iml_RX10_1 ioi_in ioi_cd (by decide) (mx_da t_X10_init 1 rfl) rfl ?_
  refine mx_aload_n 0 (mx_da t_X10_init 2 rfl) rfl rfl rfl rfl ?_
  refine mx_new (ci := 4) _ 1 rfl icl_RX10_7 iin_RX4 ini_RX4 (show 1 ≤ 600127 by decide) (show 5 ≤ 7301081 by decide) (len_at rfl (by decide)) rfl rfl (mx_da t_X10_init 3 rfl) rfl ?_
  rw [nm_new (k := 1) (N := 5) (a := 600127) (b := 7301081) (a2 := 600126) (b2 := 7301076) rfl (by decide) rfl rfl]
  show mx_W _ _ 8 [.ref 1] [.ref 2, .ref 1] (nmT 2 In_2 Jn_2 Rn_2 600126 7301076 (L, xs)) _
  refine mx_dup (mx_da t_X10_init 4 rfl) rfl rfl ?_
  refine mx_callI yX4_init m_X4_init 2 mm_X4_init (Or.inr ⟨"MeerDrawers", iml_RX10_9⟩) im_X4_init rfl rfl rfl (by decide) (mx_da t_X10_init 5 rfl) rfl (by decide) (len_at rfl (by decide)) rfl rfl (in_2 L xs ⟨by rw [len_at (k := 23) rfl (by decide)]; decide, ?_⟩)
  show mx_W _ _ 12 [.ref 1] [.ref 2, .ref 1] (nmT 23 In_35 Jn_24 Rn_44 600105 7299353 (L, xs)) _
  refine mx_putFR (ci := 9) (j := 0) _ rfl (by decide) ifl_RX10_10 rfl rfl rfl rfl (shp_at rfl (by decide) rfl) (by rw [len_at (k := 23) rfl (by decide)]; decide) (mx_da t_X10_init 6 rfl) rfl ?_
  show mx_W _ _ 15 [.ref 1] [] (nmT 23 In_35 Jn_24 Rn_45 600105 7299353 (L, xs)) _
  refine mx_aload_n 0 (mx_da t_X10_init 7 rfl) rfl rfl rfl rfl ?_
  refine mx_aload_n 0 (mx_da t_X10_init 8 rfl) rfl rfl rfl rfl ?_
  refine mx_getR 2 fs_RX10_10 rfl (shp_at rfl (by decide) rfl) rd_1_0 (mx_da t_X10_init 9 rfl) rfl ?_
  refine mx_getR 3 fs_RX10_16 rfl (shp_at rfl (by decide) rfl) rd_2_0 (mx_da t_X10_init 10 rfl) rfl ?_
  refine mx_getR 4 fs_RX10_20 rfl (shp_at rfl (by decide) rfl) rd_3_0 (mx_da t_X10_init 11 rfl) rfl ?_
  refine mx_putFR (ci := 9) (j := 1) _ rfl (by decide) ifl_RX10_26 rfl rfl rfl rfl (shp_at rfl (by decide) rfl) (by rw [len_at (k := 23) rfl (by decide)]; decide) (mx_da t_X10_init 12 rfl) rfl ?_
  show mx_W _ _ 29 [.ref 1] [] (nmT 23 In_35 Jn_24 Rn_46 600105 7299353 (L, xs)) _
  refine mx_aload_n 0 (mx_da t_X10_init 13 rfl) rfl rfl rfl rfl ?_
  refine mx_new (ci := 3) _ 23 rfl icl_RX10_27 iin_RX3 ini_RX3 (show 1 ≤ 600105 by decide) (show 10 ≤ 7299353 by decide) (len_at rfl (by decide)) rfl rfl (mx_da t_X10_init 14 rfl) rfl ?_
  rw [nm_new (k := 23) (N := 10) (a := 600105) (b := 7299353) (a2 := 600104) (b2 := 7299343) rfl (by decide) rfl rfl]
  show mx_W _ _ 33 [.ref 1] [.ref 24, .ref 1] (nmT 24 In_36 Jn_25 Rn_47 600104 7299343 (L, xs)) _
  refine mx_dup (mx_da t_X10_init 15 rfl) rfl rfl ?_
  refine mx_callI yX3_init m_X3_init 24 mm_X3_init (Or.inr ⟨"MeerDrawers", iml_RX10_29⟩) im_X3_init rfl rfl rfl (by decide) (mx_da t_X10_init 16 rfl) rfl (by decide) (len_at rfl (by decide)) rfl rfl (in_24 L xs ⟨by rw [len_at (k := 30) rfl (by decide)]; decide, ?_⟩)
  show mx_W _ _ 37 [.ref 1] [.ref 24, .ref 1] (nmT 30 In_46 Jn_31 Rn_59 600098 7297407 (L, xs)) _
  refine mx_putFR (ci := 9) (j := 2) _ rfl (by decide) ifl_RX10_30 rfl rfl rfl rfl (shp_at rfl (by decide) rfl) (by rw [len_at (k := 30) rfl (by decide)]; decide) (mx_da t_X10_init 17 rfl) rfl ?_
  show mx_W _ _ 40 [.ref 1] [] (nmT 30 In_46 Jn_31 Rn_60 600098 7297407 (L, xs)) _
  refine mx_aload_n 0 (mx_da t_X10_init 18 rfl) rfl rfl rfl rfl ?_
  refine mx_new (ci := 5) _ 30 rfl icl_RX10_34 iin_RX5 ini_RX5 (show 1 ≤ 600098 by decide) (show 2 ≤ 7297407 by decide) (len_at rfl (by decide)) rfl rfl (mx_da t_X10_init 19 rfl) rfl ?_
  rw [nm_new (k := 30) (N := 2) (a := 600098) (b := 7297407) (a2 := 600097) (b2 := 7297405) rfl (by decide) rfl rfl]
  show mx_W _ _ 44 [.ref 1] [.ref 31, .ref 1] (nmT 31 In_47 Jn_32 Rn_61 600097 7297405 (L, xs)) _
  refine mx_dup (mx_da t_X10_init 20 rfl) rfl rfl ?_
  refine mx_callI yX5_init m_X5_init 31 mm_X5_init (Or.inr ⟨"MeerDrawers", iml_RX10_36⟩) im_X5_init rfl rfl rfl (by decide) (mx_da t_X10_init 21 rfl) rfl (by decide) (len_at rfl (by decide)) rfl rfl (in_31 L xs ⟨by rw [len_at (k := 32) rfl (by decide)]; decide, ?_⟩)
  show mx_W _ _ 48 [.ref 1] [.ref 31, .ref 1] (nmT 32 In_49 Jn_33 Rn_63 600096 7297395 (L, xs)) _
  refine mx_putFR (ci := 9) (j := 3) _ rfl (by decide) ifl_RX10_37 rfl rfl rfl rfl (shp_at rfl (by decide) rfl) (by rw [len_at (k := 32) rfl (by decide)]; decide) (mx_da t_X10_init 22 rfl) rfl ?_
  show mx_W _ _ 51 [.ref 1] [] (nmT 32 In_49 Jn_33 Rn_64 600096 7297395 (L, xs)) _
  refine mx_aload_n 0 (mx_da t_X10_init 23 rfl) rfl rfl rfl rfl ?_
  refine mx_new (ci := 5) _ 32 rfl icl_RX10_34 iin_RX5 ini_RX5 (show 1 ≤ 600096 by decide) (show 2 ≤ 7297395 by decide) (len_at rfl (by decide)) rfl rfl (mx_da t_X10_init 24 rfl) rfl ?_
  rw [nm_new (k := 32) (N := 2) (a := 600096) (b := 7297395) (a2 := 600095) (b2 := 7297393) rfl (by decide) rfl rfl]
  show mx_W _ _ 55 [.ref 1] [.ref 33, .ref 1] (nmT 33 In_50 Jn_34 Rn_65 600095 7297393 (L, xs)) _
  refine mx_dup (mx_da t_X10_init 25 rfl) rfl rfl ?_
  refine mx_callI yX5_init m_X5_init 33 mm_X5_init (Or.inr ⟨"MeerDrawers", iml_RX10_36⟩) im_X5_init rfl rfl rfl (by decide) (mx_da t_X10_init 26 rfl) rfl (by decide) (len_at rfl (by decide)) rfl rfl (in_33 L xs ⟨by rw [len_at (k := 34) rfl (by decide)]; decide, ?_⟩)
  show mx_W _ _ 59 [.ref 1] [.ref 33, .ref 1] (nmT 34 In_52 Jn_35 Rn_67 600094 7297383 (L, xs)) _
  refine mx_putFR (ci := 9) (j := 4) _ rfl (by decide) ifl_RX10_41 rfl rfl rfl rfl (shp_at rfl (by decide) rfl) (by rw [len_at (k := 34) rfl (by decide)]; decide) (mx_da t_X10_init 27 rfl) rfl ?_
  show mx_W _ _ 62 [.ref 1] [] (nmT 34 In_52 Jn_35 Rn_68 600094 7297383 (L, xs)) _
  refine mx_aload_n 0 (mx_da t_X10_init 28 rfl) rfl rfl rfl rfl ?_
  refine mx_new (ci := 0) _ 34 rfl icl_RX10_44 iin_RX0 ini_RX0 (show 1 ≤ 600094 by decide) (show 2 ≤ 7297383 by decide) (len_at rfl (by decide)) rfl rfl (mx_da t_X10_init 29 rfl) rfl ?_
  rw [nm_new (k := 34) (N := 2) (a := 600094) (b := 7297383) (a2 := 600093) (b2 := 7297381) rfl (by decide) rfl rfl]
  show mx_W _ _ 66 [.ref 1] [.ref 35, .ref 1] (nmT 35 In_53 Jn_36 Rn_69 600093 7297381 (L, xs)) _
  refine mx_dup (mx_da t_X10_init 30 rfl) rfl rfl ?_
  refine mx_callI yX0_init m_X0_init 35 mm_X0_init (Or.inr ⟨"MeerDrawers", iml_RX10_46⟩) im_X0_init rfl rfl rfl (by decide) (mx_da t_X10_init 31 rfl) rfl (by decide) (len_at rfl (by decide)) rfl rfl (in_35 L xs ⟨by rw [len_at (k := 36) rfl (by decide)]; decide, ?_⟩)
  show mx_W _ _ 70 [.ref 1] [.ref 35, .ref 1] (nmT 36 In_55 Jn_37 Rn_71 600092 7297341 (L, xs)) _
  refine mx_putFR (ci := 9) (j := 5) _ rfl (by decide) ifl_RX10_47 rfl rfl rfl rfl (shp_at rfl (by decide) rfl) (by rw [len_at (k := 36) rfl (by decide)]; decide) (mx_da t_X10_init 32 rfl) rfl ?_
  show mx_W _ _ 73 [.ref 1] [] (nmT 36 In_55 Jn_37 Rn_72 600092 7297341 (L, xs)) _
  refine mx_aload_n 0 (mx_da t_X10_init 33 rfl) rfl rfl rfl rfl ?_
  refine mx_new (ci := 0) _ 36 rfl icl_RX10_44 iin_RX0 ini_RX0 (show 1 ≤ 600092 by decide) (show 2 ≤ 7297341 by decide) (len_at rfl (by decide)) rfl rfl (mx_da t_X10_init 34 rfl) rfl ?_
  rw [nm_new (k := 36) (N := 2) (a := 600092) (b := 7297341) (a2 := 600091) (b2 := 7297339) rfl (by decide) rfl rfl]
  show mx_W _ _ 77 [.ref 1] [.ref 37, .ref 1] (nmT 37 In_56 Jn_38 Rn_73 600091 7297339 (L, xs)) _
  refine mx_dup (mx_da t_X10_init 35 rfl) rfl rfl ?_
  refine mx_callI yX0_init m_X0_init 37 mm_X0_init (Or.inr ⟨"MeerDrawers", iml_RX10_46⟩) im_X0_init rfl rfl rfl (by decide) (mx_da t_X10_init 36 rfl) rfl (by decide) (len_at rfl (by decide)) rfl rfl (in_37 L xs ⟨by rw [len_at (k := 38) rfl (by decide)]; decide, ?_⟩)
  show mx_W _ _ 81 [.ref 1] [.ref 37, .ref 1] (nmT 38 In_58 Jn_39 Rn_75 600090 7297299 (L, xs)) _
  refine mx_putFR (ci := 9) (j := 6) _ rfl (by decide) ifl_RX10_51 rfl rfl rfl rfl (shp_at rfl (by decide) rfl) (by rw [len_at (k := 38) rfl (by decide)]; decide) (mx_da t_X10_init 37 rfl) rfl ?_
  show mx_W _ _ 84 [.ref 1] [] (nmT 38 In_58 Jn_39 Rn_76 600090 7297299 (L, xs)) _
  refine mx_aload_n 0 (mx_da t_X10_init 38 rfl) rfl rfl rfl rfl ?_
  refine mx_new (ci := 2) _ 38 rfl icl_RX10_54 iin_RX2 ini_RX2 (show 1 ≤ 600090 by decide) (show 5 ≤ 7297299 by decide) (len_at rfl (by decide)) rfl rfl (mx_da t_X10_init 39 rfl) rfl ?_
  rw [nm_new (k := 38) (N := 5) (a := 600090) (b := 7297299) (a2 := 600089) (b2 := 7297294) rfl (by decide) rfl rfl]
  show mx_W _ _ 88 [.ref 1] [.ref 39, .ref 1] (nmT 39 In_59 Jn_40 Rn_77 600089 7297294 (L, xs)) _
  refine mx_dup (mx_da t_X10_init 40 rfl) rfl rfl ?_
  refine mx_callI yX2_init m_X2_init 39 mm_X2_init (Or.inr ⟨"MeerDrawers", iml_RX10_56⟩) im_X2_init rfl rfl rfl (by decide) (mx_da t_X10_init 41 rfl) rfl (by decide) (len_at rfl (by decide)) rfl rfl (in_39 L xs ⟨by rw [len_at (k := 42) rfl (by decide)]; decide, ?_⟩)
  show mx_W _ _ 92 [.ref 1] [.ref 39, .ref 1] (nmT 42 In_64 Jn_43 Rn_83 600086 7296160 (L, xs)) _
  refine mx_putFR (ci := 9) (j := 7) _ rfl (by decide) ifl_RX10_57 rfl rfl rfl rfl (shp_at rfl (by decide) rfl) (by rw [len_at (k := 42) rfl (by decide)]; decide) (mx_da t_X10_init 42 rfl) rfl ?_
  show mx_W _ _ 95 [.ref 1] [] (nmT 42 In_64 Jn_43 Rn_84 600086 7296160 (L, xs)) _
  refine mx_aload_n 0 (mx_da t_X10_init 43 rfl) rfl rfl rfl rfl ?_
  refine mx_bipush (v := 10) (mx_da t_X10_init 44 rfl) rfl rfl ?_
  refine mx_newA (ty := .int) 42 10 rfl (Or.inl rfl) iac_int (by decide) (by decide) (by decide) (show 1 ≤ 600086 by decide) (show 10 ≤ 7296160 by decide) (len_at rfl (by decide)) rfl rfl (mx_da t_X10_init 45 rfl) rfl ?_
  rw [nm_new (k := 42) (N := 10) (a := 600086) (b := 7296160) (a2 := 600085) (b2 := 7296150) rfl (by decide) rfl rfl]
  show mx_W _ _ 100 [.ref 1] [.ref 43, .ref 1] (nmT 43 In_65 Jn_44 Rn_85 600085 7296150 (L, xs)) _
  refine mx_putFR (ci := 9) (j := 8) _ rfl (by decide) ifl_RX10_61 rfl rfl rfl rfl (shp_at rfl (by decide) rfl) (by rw [len_at (k := 43) rfl (by decide)]; decide) (mx_da t_X10_init 46 rfl) rfl ?_
  show mx_W _ _ 103 [.ref 1] [] (nmT 43 In_65 Jn_44 Rn_86 600085 7296150 (L, xs)) _
  refine mx_aload_n 0 (mx_da t_X10_init 47 rfl) rfl rfl rfl rfl ?_
  refine mx_bipush (v := 10) (mx_da t_X10_init 48 rfl) rfl rfl ?_
  refine mx_newA (ty := .int) 43 10 rfl (Or.inl rfl) iac_int (by decide) (by decide) (by decide) (show 1 ≤ 600085 by decide) (show 10 ≤ 7296150 by decide) (len_at rfl (by decide)) rfl rfl (mx_da t_X10_init 49 rfl) rfl ?_
  rw [nm_new (k := 43) (N := 10) (a := 600085) (b := 7296150) (a2 := 600084) (b2 := 7296140) rfl (by decide) rfl rfl]
  show mx_W _ _ 108 [.ref 1] [.ref 44, .ref 1] (nmT 44 In_66 Jn_45 Rn_87 600084 7296140 (L, xs)) _
  refine mx_putFR (ci := 9) (j := 9) _ rfl (by decide) ifl_RX10_65 rfl rfl rfl rfl (shp_at rfl (by decide) rfl) (by rw [len_at (k := 44) rfl (by decide)]; decide) (mx_da t_X10_init 50 rfl) rfl ?_
  show mx_W _ _ 111 [.ref 1] [] (nmT 44 In_66 Jn_45 Rn_88 600084 7296140 (L, xs)) _
  refine mx_aload_n 0 (mx_da t_X10_init 51 rfl) rfl rfl rfl rfl ?_
  refine mx_new (ci := 1) _ 44 rfl icl_RX10_68 iin_RX1 ini_RX1 (show 1 ≤ 600084 by decide) (show 14 ≤ 7296140 by decide) (len_at rfl (by decide)) rfl rfl (mx_da t_X10_init 52 rfl) rfl ?_
  rw [nm_new (k := 44) (N := 14) (a := 600084) (b := 7296140) (a2 := 600083) (b2 := 7296126) rfl (by decide) rfl rfl]
  show mx_W _ _ 115 [.ref 1] [.ref 45, .ref 1] (nmT 45 In_67 Jn_46 Rn_89 600083 7296126 (L, xs)) _
  refine mx_dup (mx_da t_X10_init 53 rfl) rfl rfl ?_
  refine mx_callI yX1_init m_X1_init 45 mm_X1_init (Or.inr ⟨"MeerDrawers", iml_RX10_70⟩) im_X1_init rfl rfl rfl (by decide) (mx_da t_X10_init 54 rfl) rfl (by decide) (len_at rfl (by decide)) rfl rfl (in_45 L xs ⟨by rw [len_at (k := 57) rfl (by decide)]; decide, ?_⟩)
  show mx_W _ _ 119 [.ref 1] [.ref 45, .ref 1] (nmT 57 In_81 Jn_58 Rn_113 600071 7295904 (L, xs)) _
  refine mx_putR (by rw [len_at (k := 57) rfl (by decide)]; decide) fs_RX10_71 rfl (shp_at rfl (by decide) rfl) rfl (mx_da t_X10_init 55 rfl) rfl ?_
  show mx_W _ _ 122 [.ref 1] [] (nmT 57 In_81 Jn_58 Rn_114 600071 7295904 (L, xs)) _
  refine mx_aload_n 0 (mx_da t_X10_init 56 rfl) rfl rfl rfl rfl ?_
  refine mx_iconst (v := 0) (mx_da t_X10_init 57 rfl) rfl rfl ?_
  refine mx_putI fs_RX10_75 rfl (shp_at rfl (by decide) rfl) rfl rfl rfl (mx_da t_X10_init 58 rfl) rfl ?_
  show mx_W _ _ 127 [.ref 1] [] (nmT 57 In_82 Jn_58 Rn_114 600071 7295904 (L, xs)) _
  refine mx_aload_n 0 (mx_da t_X10_init 59 rfl) rfl rfl rfl rfl ?_
  refine mx_iconst (v := 0) (mx_da t_X10_init 60 rfl) rfl rfl ?_
  refine mx_putI fs_RX10_79 rfl (shp_at rfl (by decide) rfl) rfl rfl rfl (mx_da t_X10_init 61 rfl) rfl ?_
  show mx_W _ _ 132 [.ref 1] [] (nmT 57 In_83 Jn_58 Rn_114 600071 7295904 (L, xs)) _
  refine mx_aload_n 0 (mx_da t_X10_init 62 rfl) rfl rfl rfl rfl ?_
  refine mx_lconst (v := 0) (mx_da t_X10_init 63 rfl) rfl rfl ?_
  refine mx_putJ fs_RX10_83 rfl (shp_at rfl (by decide) rfl) rfl (mx_da t_X10_init 64 rfl) rfl ?_
  show mx_W _ _ 137 [.ref 1] [] (nmT 57 In_83 Jn_59 Rn_114 600071 7295904 (L, xs)) _
  refine mx_aload_n 0 (mx_da t_X10_init 65 rfl) rfl rfl rfl rfl ?_
  refine mx_iconst (v := (-1)) (mx_da t_X10_init 66 rfl) rfl rfl ?_
  refine mx_putI fs_RX10_87 rfl (shp_at rfl (by decide) rfl) rfl rfl rfl (mx_da t_X10_init 67 rfl) rfl ?_
  show mx_W _ _ 142 [.ref 1] [] (nmT 57 In_84 Jn_59 Rn_114 600071 7295904 (L, xs)) _
  refine mx_aload_n 0 (mx_da t_X10_init 68 rfl) rfl rfl rfl rfl ?_
  refine mx_iconst (v := 0) (mx_da t_X10_init 69 rfl) rfl rfl ?_
  refine mx_putI fs_RX10_90 rfl (shp_at rfl (by decide) rfl) rfl rfl rfl (mx_da t_X10_init 70 rfl) rfl ?_
  show mx_W _ _ 147 [.ref 1] [] (nmT 57 In_85 Jn_59 Rn_114 600071 7295904 (L, xs)) _
  refine mx_aload_n 0 (mx_da t_X10_init 71 rfl) rfl rfl rfl rfl ?_
  refine mx_iconst (v := 0) (mx_da t_X10_init 72 rfl) rfl rfl ?_
  refine mx_putI fs_RX10_93 rfl (shp_at rfl (by decide) rfl) rfl rfl rfl (mx_da t_X10_init 73 rfl) rfl ?_
  show mx_W _ _ 152 [.ref 1] [] (nmT 57 In_86 Jn_59 Rn_114 600071 7295904 (L, xs)) _
  exact mx_vret rfl (mx_da t_X10_init 74 rfl) k
theorem icl_RL_103 : Cond.classLink RL 103 RX11 ∈ lw_tbl := tb_6 _ (List.mem_of_getElem? (i := 67) rfl)
theorem iin_RX11 : Cond.instantiable RX11 64 ∈ lw_tbl := tb_6 _ (List.mem_of_getElem? (i := 68) rfl)
theorem ini_RX11 : Cond.initialized RX11 ∈ lw_tbl := tb_1 _ (List.mem_of_getElem? (i := 11) rfl)
def In_87 : Nat → Nat → Int32 := mx_zr In_86 58 0
def Jn_60 : Nat → Nat → Int64 := mx_zr Jn_59 58 0
def Rn_115 : Nat → Nat → Nat := mx_zr Rn_114 58 0
theorem iml_RX11_1 : Cond.methodLink RX11 1 Lib.objectInit ∈ lw_tbl := tb_6 _ (List.mem_of_getElem? (i := 72) rfl)
def In_88 : Nat → Nat → Int32 := mx_zr In_87 59 0
def Jn_61 : Nat → Nat → Int64 := mx_zr Jn_60 59 0
def Rn_116 : Nat → Nat → Nat := mx_zr Rn_115 59 0
theorem ifl_RX11_7 : Cond.fieldLink RX11 7 "MeerDrawersModel" "year" "[I" ∈ lw_tbl := tb_6 _ (List.mem_of_getElem? (i := 76) rfl)
def Rn_117 : Nat → Nat → Nat := mx_up Rn_116 58 3 59
def In_89 : Nat → Nat → Int32 := mx_zr In_88 60 0
def Jn_62 : Nat → Nat → Int64 := mx_zr Jn_61 60 0
def Rn_118 : Nat → Nat → Nat := mx_zr Rn_117 60 0
theorem ifl_RX11_13 : Cond.fieldLink RX11 13 "MeerDrawersModel" "many" "[I" ∈ lw_tbl := tb_6 _ (List.mem_of_getElem? (i := 77) rfl)
def Rn_119 : Nat → Nat → Nat := mx_up Rn_118 58 4 60
def In_90 : Nat → Nat → Int32 := mx_zr In_89 61 0
def Jn_63 : Nat → Nat → Int64 := mx_zr Jn_62 61 0
def Rn_120 : Nat → Nat → Nat := mx_zr Rn_119 61 0
theorem ifl_RX11_16 : Cond.fieldLink RX11 16 "MeerDrawersModel" "rules" "[I" ∈ lw_tbl := tb_6 _ (List.mem_of_getElem? (i := 78) rfl)
def Rn_121 : Nat → Nat → Nat := mx_up Rn_120 58 5 61
def In_91 : Nat → Nat → Int32 := mx_zr In_90 62 0
def Jn_64 : Nat → Nat → Int64 := mx_zr Jn_63 62 0
def Rn_122 : Nat → Nat → Nat := mx_zr Rn_121 62 0
theorem ifl_RX11_19 : Cond.fieldLink RX11 19 "MeerDrawersModel" "ruleKind" "[I" ∈ lw_tbl := tb_6 _ (List.mem_of_getElem? (i := 79) rfl)
def Rn_123 : Nat → Nat → Nat := mx_up Rn_122 58 6 62
def In_92 : Nat → Nat → Int32 := mx_zr In_91 63 0
def Jn_65 : Nat → Nat → Int64 := mx_zr Jn_64 63 0
def Rn_124 : Nat → Nat → Nat := mx_zr Rn_123 63 0
theorem ifl_RX11_22 : Cond.fieldLink RX11 22 "MeerDrawersModel" "turned" "[I" ∈ lw_tbl := tb_6 _ (List.mem_of_getElem? (i := 80) rfl)
def Rn_125 : Nat → Nat → Nat := mx_up Rn_124 58 7 63
def In_93 : Nat → Nat → Int32 := mx_zr In_92 64 0
def Jn_66 : Nat → Nat → Int64 := mx_zr Jn_65 64 0
def Rn_126 : Nat → Nat → Nat := mx_zr Rn_125 64 0
theorem ifl_RX11_25 : Cond.fieldLink RX11 25 "MeerDrawersModel" "joined" "[I" ∈ lw_tbl := tb_6 _ (List.mem_of_getElem? (i := 81) rfl)
def Rn_127 : Nat → Nat → Nat := mx_up Rn_126 58 8 64
def In_94 : Nat → Nat → Int32 := mx_zr In_93 65 0
def Jn_67 : Nat → Nat → Int64 := mx_zr Jn_66 65 0
def Rn_128 : Nat → Nat → Nat := mx_zr Rn_127 65 0
theorem ifl_RX11_28 : Cond.fieldLink RX11 28 "MeerDrawersModel" "tieAt" "[I" ∈ lw_tbl := tb_6 _ (List.mem_of_getElem? (i := 82) rfl)
def Rn_129 : Nat → Nat → Nat := mx_up Rn_128 58 9 65
def In_95 : Nat → Nat → Int32 := mx_zr In_94 66 0
def Jn_68 : Nat → Nat → Int64 := mx_zr Jn_67 66 0
def Rn_130 : Nat → Nat → Nat := mx_zr Rn_129 66 0
theorem ifl_RX11_31 : Cond.fieldLink RX11 31 "MeerDrawersModel" "code" "[I" ∈ lw_tbl := tb_6 _ (List.mem_of_getElem? (i := 83) rfl)
def Rn_131 : Nat → Nat → Nat := mx_up Rn_130 58 10 66
def In_96 : Nat → Nat → Int32 := mx_zr In_95 67 0
def Jn_69 : Nat → Nat → Int64 := mx_zr Jn_68 67 0
def Rn_132 : Nat → Nat → Nat := mx_zr Rn_131 67 0
theorem ifl_RX11_34 : Cond.fieldLink RX11 34 "MeerDrawersModel" "heading" "[J" ∈ lw_tbl := tb_6 _ (List.mem_of_getElem? (i := 84) rfl)
def Rn_133 : Nat → Nat → Nat := mx_up Rn_132 58 11 67
def In_97 : Nat → Nat → Int32 := mx_zr In_96 68 0
def Jn_70 : Nat → Nat → Int64 := mx_zr Jn_69 68 0
def Rn_134 : Nat → Nat → Nat := mx_zr Rn_133 68 0
theorem ifl_RX11_38 : Cond.fieldLink RX11 38 "MeerDrawersModel" "ruleFrom" "[J" ∈ lw_tbl := tb_6 _ (List.mem_of_getElem? (i := 85) rfl)
def Rn_135 : Nat → Nat → Nat := mx_up Rn_134 58 12 68
def In_98 : Nat → Nat → Int32 := mx_zr In_97 69 0
def Jn_71 : Nat → Nat → Int64 := mx_zr Jn_70 69 0
def Rn_136 : Nat → Nat → Nat := mx_zr Rn_135 69 0
theorem ifl_RX11_41 : Cond.fieldLink RX11 41 "MeerDrawersModel" "ruleTo" "[J" ∈ lw_tbl := tb_6 _ (List.mem_of_getElem? (i := 86) rfl)
def Rn_137 : Nat → Nat → Nat := mx_up Rn_136 58 13 69
def In_99 : Nat → Nat → Int32 := mx_zr In_98 70 0
def Jn_72 : Nat → Nat → Int64 := mx_zr Jn_71 70 0
def Rn_138 : Nat → Nat → Nat := mx_zr Rn_137 70 0
theorem ifl_RX11_44 : Cond.fieldLink RX11 44 "MeerDrawersModel" "tape" "[I" ∈ lw_tbl := tb_6 _ (List.mem_of_getElem? (i := 87) rfl)
def Rn_139 : Nat → Nat → Nat := mx_up Rn_138 58 14 70
def In_100 : Nat → Nat → Int32 := mx_up In_99 58 17 (-1)
def In_101 : Nat → Nat → Int32 := mx_zr In_100 71 0
def Jn_73 : Nat → Nat → Int64 := mx_zr Jn_72 71 0
def Rn_140 : Nat → Nat → Nat := mx_zr Rn_139 71 0
theorem ifl_RX11_51 : Cond.fieldLink RX11 51 "MeerDrawersModel" "refused" "[I" ∈ lw_tbl := tb_6 _ (List.mem_of_getElem? (i := 91) rfl)
def Rn_141 : Nat → Nat → Nat := mx_up Rn_140 58 18 71
def In_102 : Nat → Nat → Int32 := mx_zr In_101 72 0
def Jn_74 : Nat → Nat → Int64 := mx_zr Jn_73 72 0
def Rn_142 : Nat → Nat → Nat := mx_zr Rn_141 72 0
theorem ifl_RX11_54 : Cond.fieldLink RX11 54 "MeerDrawersModel" "newYear" "[I" ∈ lw_tbl := tb_6 _ (List.mem_of_getElem? (i := 105) rfl)
def Rn_143 : Nat → Nat → Nat := mx_up Rn_142 58 32 72
def In_103 : Nat → Nat → Int32 := mx_zr In_102 73 0
def Jn_75 : Nat → Nat → Int64 := mx_zr Jn_74 73 0
def Rn_144 : Nat → Nat → Nat := mx_zr Rn_143 73 0
theorem ifl_RX11_57 : Cond.fieldLink RX11 57 "MeerDrawersModel" "newMany" "[I" ∈ lw_tbl := tb_6 _ (List.mem_of_getElem? (i := 106) rfl)
def Rn_145 : Nat → Nat → Nat := mx_up Rn_144 58 33 73
def In_104 : Nat → Nat → Int32 := mx_zr In_103 74 0
def Jn_76 : Nat → Nat → Int64 := mx_zr Jn_75 74 0
def Rn_146 : Nat → Nat → Nat := mx_zr Rn_145 74 0
theorem ifl_RX11_60 : Cond.fieldLink RX11 60 "MeerDrawersModel" "newRules" "[I" ∈ lw_tbl := tb_6 _ (List.mem_of_getElem? (i := 107) rfl)
def Rn_147 : Nat → Nat → Nat := mx_up Rn_146 58 34 74
def In_105 : Nat → Nat → Int32 := mx_zr In_104 75 0
def Jn_77 : Nat → Nat → Int64 := mx_zr Jn_76 75 0
def Rn_148 : Nat → Nat → Nat := mx_zr Rn_147 75 0
theorem ifl_RX11_63 : Cond.fieldLink RX11 63 "MeerDrawersModel" "newRuleKind" "[I" ∈ lw_tbl := tb_6 _ (List.mem_of_getElem? (i := 108) rfl)
def Rn_149 : Nat → Nat → Nat := mx_up Rn_148 58 35 75
def In_106 : Nat → Nat → Int32 := mx_zr In_105 76 0
def Jn_78 : Nat → Nat → Int64 := mx_zr Jn_77 76 0
def Rn_150 : Nat → Nat → Nat := mx_zr Rn_149 76 0
theorem ifl_RX11_66 : Cond.fieldLink RX11 66 "MeerDrawersModel" "newTurned" "[I" ∈ lw_tbl := tb_6 _ (List.mem_of_getElem? (i := 109) rfl)
def Rn_151 : Nat → Nat → Nat := mx_up Rn_150 58 36 76
def In_107 : Nat → Nat → Int32 := mx_zr In_106 77 0
def Jn_79 : Nat → Nat → Int64 := mx_zr Jn_78 77 0
def Rn_152 : Nat → Nat → Nat := mx_zr Rn_151 77 0
theorem ifl_RX11_69 : Cond.fieldLink RX11 69 "MeerDrawersModel" "newJoined" "[I" ∈ lw_tbl := tb_6 _ (List.mem_of_getElem? (i := 110) rfl)
def Rn_153 : Nat → Nat → Nat := mx_up Rn_152 58 37 77
def In_108 : Nat → Nat → Int32 := mx_zr In_107 78 0
def Jn_80 : Nat → Nat → Int64 := mx_zr Jn_79 78 0
def Rn_154 : Nat → Nat → Nat := mx_zr Rn_153 78 0
theorem ifl_RX11_72 : Cond.fieldLink RX11 72 "MeerDrawersModel" "newTieAt" "[I" ∈ lw_tbl := tb_6 _ (List.mem_of_getElem? (i := 111) rfl)
def Rn_155 : Nat → Nat → Nat := mx_up Rn_154 58 38 78
def In_109 : Nat → Nat → Int32 := mx_zr In_108 79 0
def Jn_81 : Nat → Nat → Int64 := mx_zr Jn_80 79 0
def Rn_156 : Nat → Nat → Nat := mx_zr Rn_155 79 0
theorem ifl_RX11_75 : Cond.fieldLink RX11 75 "MeerDrawersModel" "readCode" "[I" ∈ lw_tbl := tb_6 _ (List.mem_of_getElem? (i := 112) rfl)
def Rn_157 : Nat → Nat → Nat := mx_up Rn_156 58 39 79
def In_110 : Nat → Nat → Int32 := mx_zr In_109 80 0
def Jn_82 : Nat → Nat → Int64 := mx_zr Jn_81 80 0
def Rn_158 : Nat → Nat → Nat := mx_zr Rn_157 80 0
theorem ifl_RX11_78 : Cond.fieldLink RX11 78 "MeerDrawersModel" "waits" "[I" ∈ lw_tbl := tb_6 _ (List.mem_of_getElem? (i := 113) rfl)
def Rn_159 : Nat → Nat → Nat := mx_up Rn_158 58 40 80
def In_111 : Nat → Nat → Int32 := mx_zr In_110 81 0
def Jn_83 : Nat → Nat → Int64 := mx_zr Jn_82 81 0
def Rn_160 : Nat → Nat → Nat := mx_zr Rn_159 81 0
theorem ifl_RX11_81 : Cond.fieldLink RX11 81 "MeerDrawersModel" "newHeading" "[J" ∈ lw_tbl := tb_6 _ (List.mem_of_getElem? (i := 114) rfl)
def Rn_161 : Nat → Nat → Nat := mx_up Rn_160 58 41 81
def In_112 : Nat → Nat → Int32 := mx_zr In_111 82 0
def Jn_84 : Nat → Nat → Int64 := mx_zr Jn_83 82 0
def Rn_162 : Nat → Nat → Nat := mx_zr Rn_161 82 0
theorem ifl_RX11_84 : Cond.fieldLink RX11 84 "MeerDrawersModel" "newFrom" "[J" ∈ lw_tbl := tb_6 _ (List.mem_of_getElem? (i := 115) rfl)
def Rn_163 : Nat → Nat → Nat := mx_up Rn_162 58 42 82
def In_113 : Nat → Nat → Int32 := mx_zr In_112 83 0
def Jn_85 : Nat → Nat → Int64 := mx_zr Jn_84 83 0
def Rn_164 : Nat → Nat → Nat := mx_zr Rn_163 83 0
theorem ifl_RX11_87 : Cond.fieldLink RX11 87 "MeerDrawersModel" "newTo" "[J" ∈ lw_tbl := tb_6 _ (List.mem_of_getElem? (i := 116) rfl)
def Rn_165 : Nat → Nat → Nat := mx_up Rn_164 58 43 83
def In_114 : Nat → Nat → Int32 := mx_zr In_113 84 0
def Jn_86 : Nat → Nat → Int64 := mx_zr Jn_85 84 0
def Rn_166 : Nat → Nat → Nat := mx_zr Rn_165 84 0
theorem ifl_RX11_90 : Cond.fieldLink RX11 90 "MeerDrawersModel" "tested" "[Z" ∈ lw_tbl := tb_6 _ (List.mem_of_getElem? (i := 117) rfl)
def Rn_167 : Nat → Nat → Nat := mx_up Rn_166 58 44 84
def In_115 : Nat → Nat → Int32 := mx_zr In_114 85 0
def Jn_87 : Nat → Nat → Int64 := mx_zr Jn_86 85 0
def Rn_168 : Nat → Nat → Nat := mx_zr Rn_167 85 0
theorem ifl_RX11_94 : Cond.fieldLink RX11 94 "MeerDrawersModel" "keyLong" "[I" ∈ lw_tbl := tb_6 _ (List.mem_of_getElem? (i := 118) rfl)
def Rn_169 : Nat → Nat → Nat := mx_up Rn_168 58 45 85
def In_116 : Nat → Nat → Int32 := mx_zr In_115 86 0
def Jn_88 : Nat → Nat → Int64 := mx_zr Jn_87 86 0
def Rn_170 : Nat → Nat → Nat := mx_zr Rn_169 86 0
theorem ifl_RX11_97 : Cond.fieldLink RX11 97 "MeerDrawersModel" "keyOf" "[I" ∈ lw_tbl := tb_6 _ (List.mem_of_getElem? (i := 119) rfl)
def Rn_171 : Nat → Nat → Nat := mx_up Rn_170 58 46 86
def In_117 : Nat → Nat → Int32 := mx_zr In_116 87 0
def Jn_89 : Nat → Nat → Int64 := mx_zr Jn_88 87 0
def Rn_172 : Nat → Nat → Nat := mx_zr Rn_171 87 0
theorem ifl_RX11_100 : Cond.fieldLink RX11 100 "MeerDrawersModel" "said" "[J" ∈ lw_tbl := tb_6 _ (List.mem_of_getElem? (i := 120) rfl)
def Rn_173 : Nat → Nat → Nat := mx_up Rn_172 58 47 87
def In_118 : Nat → Nat → Int32 := mx_zr In_117 88 0
def Jn_90 : Nat → Nat → Int64 := mx_zr Jn_89 88 0
def Rn_174 : Nat → Nat → Nat := mx_zr Rn_173 88 0
theorem ifl_RX11_103 : Cond.fieldLink RX11 103 "MeerDrawersModel" "told" "[I" ∈ lw_tbl := tb_6 _ (List.mem_of_getElem? (i := 121) rfl)
def Rn_175 : Nat → Nat → Nat := mx_up Rn_174 58 48 88
def In_119 : Nat → Nat → Int32 := mx_zr In_118 89 0
def Jn_91 : Nat → Nat → Int64 := mx_zr Jn_90 89 0
def Rn_176 : Nat → Nat → Nat := mx_zr Rn_175 89 0
theorem ifl_RX11_106 : Cond.fieldLink RX11 106 "MeerDrawersModel" "pile" "[I" ∈ lw_tbl := tb_6 _ (List.mem_of_getElem? (i := 122) rfl)
def Rn_177 : Nat → Nat → Nat := mx_up Rn_176 58 49 89
def In_120 : Nat → Nat → Int32 := mx_zr In_119 90 0
def Jn_92 : Nat → Nat → Int64 := mx_zr Jn_91 90 0
def Rn_178 : Nat → Nat → Nat := mx_zr Rn_177 90 0
theorem ifl_RX11_109 : Cond.fieldLink RX11 109 "MeerDrawersModel" "now" "[I" ∈ lw_tbl := tb_6 _ (List.mem_of_getElem? (i := 123) rfl)
def Rn_179 : Nat → Nat → Nat := mx_up Rn_178 58 50 90
def In_121 : Nat → Nat → Int32 := mx_zr In_120 91 0
def Jn_93 : Nat → Nat → Int64 := mx_zr Jn_92 91 0
def Rn_180 : Nat → Nat → Nat := mx_zr Rn_179 91 0
theorem ifl_RX11_112 : Cond.fieldLink RX11 112 "MeerDrawersModel" "then" "[I" ∈ lw_tbl := tb_6 _ (List.mem_of_getElem? (i := 124) rfl)
def Rn_181 : Nat → Nat → Nat := mx_up Rn_180 58 51 91
def In_122 : Nat → Nat → Int32 := mx_zr In_121 92 0
def Jn_94 : Nat → Nat → Int64 := mx_zr Jn_93 92 0
def Rn_182 : Nat → Nat → Nat := mx_zr Rn_181 92 0
theorem ifl_RX11_115 : Cond.fieldLink RX11 115 "MeerDrawersModel" "ahead" "[I" ∈ lw_tbl := tb_6 _ (List.mem_of_getElem? (i := 125) rfl)
def Rn_183 : Nat → Nat → Nat := mx_up Rn_182 58 52 92
def In_123 : Nat → Nat → Int32 := mx_zr In_122 93 0
def Jn_95 : Nat → Nat → Int64 := mx_zr Jn_94 93 0
def Rn_184 : Nat → Nat → Nat := mx_zr Rn_183 93 0
theorem ifl_RX11_118 : Cond.fieldLink RX11 118 "MeerDrawersModel" "stayFrom" "[I" ∈ lw_tbl := tb_6 _ (List.mem_of_getElem? (i := 127) rfl)
def Rn_185 : Nat → Nat → Nat := mx_up Rn_184 58 54 93
def In_124 : Nat → Nat → Int32 := mx_zr In_123 94 0
def Jn_96 : Nat → Nat → Int64 := mx_zr Jn_95 94 0
def Rn_186 : Nat → Nat → Nat := mx_zr Rn_185 94 0
theorem ifl_RX11_121 : Cond.fieldLink RX11 121 "MeerDrawersModel" "stayRow" "[I" ∈ lw_tbl := tb_6 _ (List.mem_of_getElem? (i := 128) rfl)
def Rn_187 : Nat → Nat → Nat := mx_up Rn_186 58 55 94
def In_125 : Nat → Nat → Int32 := mx_up In_124 58 56 (-1)
def In_126 : Nat → Nat → Int32 := mx_zr In_125 95 0
def Jn_97 : Nat → Nat → Int64 := mx_zr Jn_96 95 0
def Rn_188 : Nat → Nat → Nat := mx_zr Rn_187 95 0
theorem ifl_RX11_127 : Cond.fieldLink RX11 127 "MeerDrawersModel" "hurt" "[I" ∈ lw_tbl := tb_6 _ (List.mem_of_getElem? (i := 131) rfl)
def Rn_189 : Nat → Nat → Nat := mx_up Rn_188 58 58 95
def In_127 : Nat → Nat → Int32 := mx_zr In_126 96 0
def Jn_98 : Nat → Nat → Int64 := mx_zr Jn_97 96 0
def Rn_190 : Nat → Nat → Nat := mx_zr Rn_189 96 0
theorem ifl_RX11_130 : Cond.fieldLink RX11 130 "MeerDrawersModel" "imageNow" "[I" ∈ lw_tbl := tb_6 _ (List.mem_of_getElem? (i := 135) rfl)
def Rn_191 : Nat → Nat → Nat := mx_up Rn_190 58 62 96
def In_128 : Nat → Nat → Int32 := mx_zr In_127 97 0
def Jn_99 : Nat → Nat → Int64 := mx_zr Jn_98 97 0
def Rn_192 : Nat → Nat → Nat := mx_zr Rn_191 97 0
theorem ifl_RX11_133 : Cond.fieldLink RX11 133 "MeerDrawersModel" "imageAhead" "[I" ∈ lw_tbl := tb_6 _ (List.mem_of_getElem? (i := 136) rfl)
def Rn_193 : Nat → Nat → Nat := mx_up Rn_192 58 63 97
set_option maxHeartbeats 4000000 in
theorem in_58 {d : Nat} {Q : mx_O → mx_M → Prop} (L : Nat) (xs : Nat → Int32) (k : Q (.inl none) (nmT 97 In_128 Jn_99 Rn_193 600031 7283464 (L, xs))) : mx_W m_X11_init (d + 5) 0 [.ref 58] [] (nmT 58 In_87 Jn_60 Rn_115 600070 7295840 (L, xs)) Q := by
  refine mx_aload_n 0 (mx_da t_X11_init 0 rfl) rfl rfl rfl rfl ?_
  refine mx_objInit iml_RX11_1 ioi_in ioi_cd (by decide) (mx_da t_X11_init 1 rfl) rfl ?_
  refine mx_aload_n 0 (mx_da t_X11_init 2 rfl) rfl rfl rfl rfl ?_
  refine mx_bipush (v := 10) (mx_da t_X11_init 3 rfl) rfl rfl ?_
  refine mx_newA (ty := .int) 58 10 rfl (Or.inl rfl) iac_int (by decide) (by decide) (by decide) (show 1 ≤ 600070 by decide) (show 10 ≤ 7295840 by decide) (len_at rfl (by decide)) rfl rfl (mx_da t_X11_init 4 rfl) rfl ?_
  rw [nm_new (k := 58) (N := 10) (a := 600070) (b := 7295840) (a2 := 600069) (b2 := 7295830) rfl (by decide) rfl rfl]
  show mx_W _ _ 9 [.ref 58] [.ref 59, .ref 58] (nmT 59 In_88 Jn_61 Rn_116 600069 7295830 (L, xs)) _
  refine mx_putFR (ci := 10) (j := 3) _ rfl (by decide) ifl_RX11_7 rfl rfl rfl rfl (shp_at rfl (by decide) rfl) (by rw [len_at (k := 59) rfl (by decide)]; decide) (mx_da t_X11_init 5 rfl) rfl ?_
  show mx_W _ _ 12 [.ref 58] [] (nmT 59 In_88 Jn_61 Rn_117 600069 7295830 (L, xs)) _
  refine mx_aload_n 0 (mx_da t_X11_init 6 rfl) rfl rfl rfl rfl ?_
  refine mx_bipush (v := 10) (mx_da t_X11_init 7 rfl) rfl rfl ?_
  refine mx_newA (ty := .int) 59 10 rfl (Or.inl rfl) iac_int (by decide) (by decide) (by decide) (show 1 ≤ 600069 by decide) (show 10 ≤ 7295830 by decide) (len_at rfl (by decide)) rfl rfl (mx_da t_X11_init 8 rfl) rfl ?_
  rw [nm_new (k := 59) (N := 10) (a := 600069) (b := 7295830) (a2 := 600068) (b2 := 7295820) rfl (by decide) rfl rfl]
  show mx_W _ _ 17 [.ref 58] [.ref 60, .ref 58] (nmT 60 In_89 Jn_62 Rn_118 600068 7295820 (L, xs)) _
  refine mx_putFR (ci := 10) (j := 4) _ rfl (by decide) ifl_RX11_13 rfl rfl rfl rfl (shp_at rfl (by decide) rfl) (by rw [len_at (k := 60) rfl (by decide)]; decide) (mx_da t_X11_init 9 rfl) rfl ?_
  show mx_W _ _ 20 [.ref 58] [] (nmT 60 In_89 Jn_62 Rn_119 600068 7295820 (L, xs)) _
  refine mx_aload_n 0 (mx_da t_X11_init 10 rfl) rfl rfl rfl rfl ?_
  refine mx_iconst (v := 4) (mx_da t_X11_init 11 rfl) rfl rfl ?_
  refine mx_newA (ty := .int) 60 4 rfl (Or.inl rfl) iac_int (by decide) (by decide) (by decide) (show 1 ≤ 600068 by decide) (show 4 ≤ 7295820 by decide) (len_at rfl (by decide)) rfl rfl (mx_da t_X11_init 12 rfl) rfl ?_
  rw [nm_new (k := 60) (N := 4) (a := 600068) (b := 7295820) (a2 := 600067) (b2 := 7295816) rfl (by decide) rfl rfl]
  show mx_W _ _ 24 [.ref 58] [.ref 61, .ref 58] (nmT 61 In_90 Jn_63 Rn_120 600067 7295816 (L, xs)) _
  refine mx_putFR (ci := 10) (j := 5) _ rfl (by decide) ifl_RX11_16 rfl rfl rfl rfl (shp_at rfl (by decide) rfl) (by rw [len_at (k := 61) rfl (by decide)]; decide) (mx_da t_X11_init 13 rfl) rfl ?_
  show mx_W _ _ 27 [.ref 58] [] (nmT 61 In_90 Jn_63 Rn_121 600067 7295816 (L, xs)) _
  refine mx_aload_n 0 (mx_da t_X11_init 14 rfl) rfl rfl rfl rfl ?_
  refine mx_bipush (v := 32) (mx_da t_X11_init 15 rfl) rfl rfl ?_
  refine mx_newA (ty := .int) 61 32 rfl (Or.inl rfl) iac_int (by decide) (by decide) (by decide) (show 1 ≤ 600067 by decide) (show 32 ≤ 7295816 by decide) (len_at rfl (by decide)) rfl rfl (mx_da t_X11_init 16 rfl) rfl ?_
  rw [nm_new (k := 61) (N := 32) (a := 600067) (b := 7295816) (a2 := 600066) (b2 := 7295784) rfl (by decide) rfl rfl]
  show mx_W _ _ 32 [.ref 58] [.ref 62, .ref 58] (nmT 62 In_91 Jn_64 Rn_122 600066 7295784 (L, xs)) _
  refine mx_putFR (ci := 10) (j := 6) _ rfl (by decide) ifl_RX11_19 rfl rfl rfl rfl (shp_at rfl (by decide) rfl) (by rw [len_at (k := 62) rfl (by decide)]; decide) (mx_da t_X11_init 17 rfl) rfl ?_
  show mx_W _ _ 35 [.ref 58] [] (nmT 62 In_91 Jn_64 Rn_123 600066 7295784 (L, xs)) _
  refine mx_aload_n 0 (mx_da t_X11_init 18 rfl) rfl rfl rfl rfl ?_
  refine mx_iconst (v := 5) (mx_da t_X11_init 19 rfl) rfl rfl ?_
  refine mx_newA (ty := .int) 62 5 rfl (Or.inl rfl) iac_int (by decide) (by decide) (by decide) (show 1 ≤ 600066 by decide) (show 5 ≤ 7295784 by decide) (len_at rfl (by decide)) rfl rfl (mx_da t_X11_init 20 rfl) rfl ?_
  rw [nm_new (k := 62) (N := 5) (a := 600066) (b := 7295784) (a2 := 600065) (b2 := 7295779) rfl (by decide) rfl rfl]
  show mx_W _ _ 39 [.ref 58] [.ref 63, .ref 58] (nmT 63 In_92 Jn_65 Rn_124 600065 7295779 (L, xs)) _
  refine mx_putFR (ci := 10) (j := 7) _ rfl (by decide) ifl_RX11_22 rfl rfl rfl rfl (shp_at rfl (by decide) rfl) (by rw [len_at (k := 63) rfl (by decide)]; decide) (mx_da t_X11_init 21 rfl) rfl ?_
  show mx_W _ _ 42 [.ref 58] [] (nmT 63 In_92 Jn_65 Rn_125 600065 7295779 (L, xs)) _
  refine mx_aload_n 0 (mx_da t_X11_init 22 rfl) rfl rfl rfl rfl ?_
  refine mx_iconst (v := 5) (mx_da t_X11_init 23 rfl) rfl rfl ?_
  refine mx_newA (ty := .int) 63 5 rfl (Or.inl rfl) iac_int (by decide) (by decide) (by decide) (show 1 ≤ 600065 by decide) (show 5 ≤ 7295779 by decide) (len_at rfl (by decide)) rfl rfl (mx_da t_X11_init 24 rfl) rfl ?_
  rw [nm_new (k := 63) (N := 5) (a := 600065) (b := 7295779) (a2 := 600064) (b2 := 7295774) rfl (by decide) rfl rfl]
  show mx_W _ _ 46 [.ref 58] [.ref 64, .ref 58] (nmT 64 In_93 Jn_66 Rn_126 600064 7295774 (L, xs)) _
  refine mx_putFR (ci := 10) (j := 8) _ rfl (by decide) ifl_RX11_25 rfl rfl rfl rfl (shp_at rfl (by decide) rfl) (by rw [len_at (k := 64) rfl (by decide)]; decide) (mx_da t_X11_init 25 rfl) rfl ?_
  show mx_W _ _ 49 [.ref 58] [] (nmT 64 In_93 Jn_66 Rn_127 600064 7295774 (L, xs)) _
  refine mx_aload_n 0 (mx_da t_X11_init 26 rfl) rfl rfl rfl rfl ?_
  refine mx_iconst (v := 5) (mx_da t_X11_init 27 rfl) rfl rfl ?_
  refine mx_newA (ty := .int) 64 5 rfl (Or.inl rfl) iac_int (by decide) (by decide) (by decide) (show 1 ≤ 600064 by decide) (show 5 ≤ 7295774 by decide) (len_at rfl (by decide)) rfl rfl (mx_da t_X11_init 28 rfl) rfl ?_
  rw [nm_new (k := 64) (N := 5) (a := 600064) (b := 7295774) (a2 := 600063) (b2 := 7295769) rfl (by decide) rfl rfl]
  show mx_W _ _ 53 [.ref 58] [.ref 65, .ref 58] (nmT 65 In_94 Jn_67 Rn_128 600063 7295769 (L, xs)) _
  refine mx_putFR (ci := 10) (j := 9) _ rfl (by decide) ifl_RX11_28 rfl rfl rfl rfl (shp_at rfl (by decide) rfl) (by rw [len_at (k := 65) rfl (by decide)]; decide) (mx_da t_X11_init 29 rfl) rfl ?_
  show mx_W _ _ 56 [.ref 58] [] (nmT 65 In_94 Jn_67 Rn_129 600063 7295769 (L, xs)) _
  refine mx_aload_n 0 (mx_da t_X11_init 30 rfl) rfl rfl rfl rfl ?_
  refine mx_sipush (v := 2800) (mx_da t_X11_init 31 rfl) rfl rfl ?_
  refine mx_newA (ty := .int) 65 2800 rfl (Or.inl rfl) iac_int (by decide) (by decide) (by decide) (show 1 ≤ 600063 by decide) (show 2800 ≤ 7295769 by decide) (len_at rfl (by decide)) rfl rfl (mx_da t_X11_init 32 rfl) rfl ?_
  rw [nm_new (k := 65) (N := 2800) (a := 600063) (b := 7295769) (a2 := 600062) (b2 := 7292969) rfl (by decide) rfl rfl]
  show mx_W _ _ 62 [.ref 58] [.ref 66, .ref 58] (nmT 66 In_95 Jn_68 Rn_130 600062 7292969 (L, xs)) _
  refine mx_putFR (ci := 10) (j := 10) _ rfl (by decide) ifl_RX11_31 rfl rfl rfl rfl (shp_at rfl (by decide) rfl) (by rw [len_at (k := 66) rfl (by decide)]; decide) (mx_da t_X11_init 33 rfl) rfl ?_
  show mx_W _ _ 65 [.ref 58] [] (nmT 66 In_95 Jn_68 Rn_131 600062 7292969 (L, xs)) _
  refine mx_aload_n 0 (mx_da t_X11_init 34 rfl) rfl rfl rfl rfl ?_
  refine mx_bipush (v := 40) (mx_da t_X11_init 35 rfl) rfl rfl ?_
  refine mx_newA (ty := .long) 66 40 rfl (Or.inr (Or.inl rfl)) iac_long (by decide) (by decide) (by decide) (show 1 ≤ 600062 by decide) (show 40 ≤ 7292969 by decide) (len_at rfl (by decide)) rfl rfl (mx_da t_X11_init 36 rfl) rfl ?_
  rw [nm_new (k := 66) (N := 40) (a := 600062) (b := 7292969) (a2 := 600061) (b2 := 7292929) rfl (by decide) rfl rfl]
  show mx_W _ _ 70 [.ref 58] [.ref 67, .ref 58] (nmT 67 In_96 Jn_69 Rn_132 600061 7292929 (L, xs)) _
  refine mx_putFR (ci := 10) (j := 11) _ rfl (by decide) ifl_RX11_34 rfl rfl rfl rfl (shp_at rfl (by decide) rfl) (by rw [len_at (k := 67) rfl (by decide)]; decide) (mx_da t_X11_init 37 rfl) rfl ?_
  show mx_W _ _ 73 [.ref 58] [] (nmT 67 In_96 Jn_69 Rn_133 600061 7292929 (L, xs)) _
  refine mx_aload_n 0 (mx_da t_X11_init 38 rfl) rfl rfl rfl rfl ?_
  refine mx_bipush (v := 32) (mx_da t_X11_init 39 rfl) rfl rfl ?_
  refine mx_newA (ty := .long) 67 32 rfl (Or.inr (Or.inl rfl)) iac_long (by decide) (by decide) (by decide) (show 1 ≤ 600061 by decide) (show 32 ≤ 7292929 by decide) (len_at rfl (by decide)) rfl rfl (mx_da t_X11_init 40 rfl) rfl ?_
  rw [nm_new (k := 67) (N := 32) (a := 600061) (b := 7292929) (a2 := 600060) (b2 := 7292897) rfl (by decide) rfl rfl]
  show mx_W _ _ 78 [.ref 58] [.ref 68, .ref 58] (nmT 68 In_97 Jn_70 Rn_134 600060 7292897 (L, xs)) _
  refine mx_putFR (ci := 10) (j := 12) _ rfl (by decide) ifl_RX11_38 rfl rfl rfl rfl (shp_at rfl (by decide) rfl) (by rw [len_at (k := 68) rfl (by decide)]; decide) (mx_da t_X11_init 41 rfl) rfl ?_
  show mx_W _ _ 81 [.ref 58] [] (nmT 68 In_97 Jn_70 Rn_135 600060 7292897 (L, xs)) _
  refine mx_aload_n 0 (mx_da t_X11_init 42 rfl) rfl rfl rfl rfl ?_
  refine mx_bipush (v := 32) (mx_da t_X11_init 43 rfl) rfl rfl ?_
  refine mx_newA (ty := .long) 68 32 rfl (Or.inr (Or.inl rfl)) iac_long (by decide) (by decide) (by decide) (show 1 ≤ 600060 by decide) (show 32 ≤ 7292897 by decide) (len_at rfl (by decide)) rfl rfl (mx_da t_X11_init 44 rfl) rfl ?_
  rw [nm_new (k := 68) (N := 32) (a := 600060) (b := 7292897) (a2 := 600059) (b2 := 7292865) rfl (by decide) rfl rfl]
  show mx_W _ _ 86 [.ref 58] [.ref 69, .ref 58] (nmT 69 In_98 Jn_71 Rn_136 600059 7292865 (L, xs)) _
  refine mx_putFR (ci := 10) (j := 13) _ rfl (by decide) ifl_RX11_41 rfl rfl rfl rfl (shp_at rfl (by decide) rfl) (by rw [len_at (k := 69) rfl (by decide)]; decide) (mx_da t_X11_init 45 rfl) rfl ?_
  show mx_W _ _ 89 [.ref 58] [] (nmT 69 In_98 Jn_71 Rn_137 600059 7292865 (L, xs)) _
  refine mx_aload_n 0 (mx_da t_X11_init 46 rfl) rfl rfl rfl rfl ?_
  refine mx_sipush (v := 700) (mx_da t_X11_init 47 rfl) rfl rfl ?_
  refine mx_newA (ty := .int) 69 700 rfl (Or.inl rfl) iac_int (by decide) (by decide) (by decide) (show 1 ≤ 600059 by decide) (show 700 ≤ 7292865 by decide) (len_at rfl (by decide)) rfl rfl (mx_da t_X11_init 48 rfl) rfl ?_
  rw [nm_new (k := 69) (N := 700) (a := 600059) (b := 7292865) (a2 := 600058) (b2 := 7292165) rfl (by decide) rfl rfl]
  show mx_W _ _ 95 [.ref 58] [.ref 70, .ref 58] (nmT 70 In_99 Jn_72 Rn_138 600058 7292165 (L, xs)) _
  refine mx_putFR (ci := 10) (j := 14) _ rfl (by decide) ifl_RX11_44 rfl rfl rfl rfl (shp_at rfl (by decide) rfl) (by rw [len_at (k := 70) rfl (by decide)]; decide) (mx_da t_X11_init 49 rfl) rfl ?_
  show mx_W _ _ 98 [.ref 58] [] (nmT 70 In_99 Jn_72 Rn_139 600058 7292165 (L, xs)) _
  refine mx_aload_n 0 (mx_da t_X11_init 50 rfl) rfl rfl rfl rfl ?_
  refine mx_iconst (v := (-1)) (mx_da t_X11_init 51 rfl) rfl rfl ?_
  refine mx_putI fs_RX11_47 rfl (shp_at rfl (by decide) rfl) rfl rfl rfl (mx_da t_X11_init 52 rfl) rfl ?_
  show mx_W _ _ 103 [.ref 58] [] (nmT 70 In_100 Jn_72 Rn_139 600058 7292165 (L, xs)) _
  refine mx_aload_n 0 (mx_da t_X11_init 53 rfl) rfl rfl rfl rfl ?_
  refine mx_iconst (v := 2) (mx_da t_X11_init 54 rfl) rfl rfl ?_
  refine mx_newA (ty := .int) 70 2 rfl (Or.inl rfl) iac_int (by decide) (by decide) (by decide) (show 1 ≤ 600058 by decide) (show 2 ≤ 7292165 by decide) (len_at rfl (by decide)) rfl rfl (mx_da t_X11_init 55 rfl) rfl ?_
  rw [nm_new (k := 70) (N := 2) (a := 600058) (b := 7292165) (a2 := 600057) (b2 := 7292163) rfl (by decide) rfl rfl]
  show mx_W _ _ 107 [.ref 58] [.ref 71, .ref 58] (nmT 71 In_101 Jn_73 Rn_140 600057 7292163 (L, xs)) _
  refine mx_putFR (ci := 10) (j := 18) _ rfl (by decide) ifl_RX11_51 rfl rfl rfl rfl (shp_at rfl (by decide) rfl) (by rw [len_at (k := 71) rfl (by decide)]; decide) (mx_da t_X11_init 56 rfl) rfl ?_
  show mx_W _ _ 110 [.ref 58] [] (nmT 71 In_101 Jn_73 Rn_141 600057 7292163 (L, xs)) _
  refine mx_aload_n 0 (mx_da t_X11_init 57 rfl) rfl rfl rfl rfl ?_
  refine mx_bipush (v := 10) (mx_da t_X11_init 58 rfl) rfl rfl ?_
  refine mx_newA (ty := .int) 71 10 rfl (Or.inl rfl) iac_int (by decide) (by decide) (by decide) (show 1 ≤ 600057 by decide) (show 10 ≤ 7292163 by decide) (len_at rfl (by decide)) rfl rfl (mx_da t_X11_init 59 rfl) rfl ?_
  rw [nm_new (k := 71) (N := 10) (a := 600057) (b := 7292163) (a2 := 600056) (b2 := 7292153) rfl (by decide) rfl rfl]
  show mx_W _ _ 115 [.ref 58] [.ref 72, .ref 58] (nmT 72 In_102 Jn_74 Rn_142 600056 7292153 (L, xs)) _
  refine mx_putFR (ci := 10) (j := 32) _ rfl (by decide) ifl_RX11_54 rfl rfl rfl rfl (shp_at rfl (by decide) rfl) (by rw [len_at (k := 72) rfl (by decide)]; decide) (mx_da t_X11_init 60 rfl) rfl ?_
  show mx_W _ _ 118 [.ref 58] [] (nmT 72 In_102 Jn_74 Rn_143 600056 7292153 (L, xs)) _
  refine mx_aload_n 0 (mx_da t_X11_init 61 rfl) rfl rfl rfl rfl ?_
  refine mx_bipush (v := 10) (mx_da t_X11_init 62 rfl) rfl rfl ?_
  refine mx_newA (ty := .int) 72 10 rfl (Or.inl rfl) iac_int (by decide) (by decide) (by decide) (show 1 ≤ 600056 by decide) (show 10 ≤ 7292153 by decide) (len_at rfl (by decide)) rfl rfl (mx_da t_X11_init 63 rfl) rfl ?_
  rw [nm_new (k := 72) (N := 10) (a := 600056) (b := 7292153) (a2 := 600055) (b2 := 7292143) rfl (by decide) rfl rfl]
  show mx_W _ _ 123 [.ref 58] [.ref 73, .ref 58] (nmT 73 In_103 Jn_75 Rn_144 600055 7292143 (L, xs)) _
  refine mx_putFR (ci := 10) (j := 33) _ rfl (by decide) ifl_RX11_57 rfl rfl rfl rfl (shp_at rfl (by decide) rfl) (by rw [len_at (k := 73) rfl (by decide)]; decide) (mx_da t_X11_init 64 rfl) rfl ?_
  show mx_W _ _ 126 [.ref 58] [] (nmT 73 In_103 Jn_75 Rn_145 600055 7292143 (L, xs)) _
  refine mx_aload_n 0 (mx_da t_X11_init 65 rfl) rfl rfl rfl rfl ?_
  refine mx_iconst (v := 4) (mx_da t_X11_init 66 rfl) rfl rfl ?_
  refine mx_newA (ty := .int) 73 4 rfl (Or.inl rfl) iac_int (by decide) (by decide) (by decide) (show 1 ≤ 600055 by decide) (show 4 ≤ 7292143 by decide) (len_at rfl (by decide)) rfl rfl (mx_da t_X11_init 67 rfl) rfl ?_
  rw [nm_new (k := 73) (N := 4) (a := 600055) (b := 7292143) (a2 := 600054) (b2 := 7292139) rfl (by decide) rfl rfl]
  show mx_W _ _ 130 [.ref 58] [.ref 74, .ref 58] (nmT 74 In_104 Jn_76 Rn_146 600054 7292139 (L, xs)) _
  refine mx_putFR (ci := 10) (j := 34) _ rfl (by decide) ifl_RX11_60 rfl rfl rfl rfl (shp_at rfl (by decide) rfl) (by rw [len_at (k := 74) rfl (by decide)]; decide) (mx_da t_X11_init 68 rfl) rfl ?_
  show mx_W _ _ 133 [.ref 58] [] (nmT 74 In_104 Jn_76 Rn_147 600054 7292139 (L, xs)) _
  refine mx_aload_n 0 (mx_da t_X11_init 69 rfl) rfl rfl rfl rfl ?_
  refine mx_bipush (v := 32) (mx_da t_X11_init 70 rfl) rfl rfl ?_
  refine mx_newA (ty := .int) 74 32 rfl (Or.inl rfl) iac_int (by decide) (by decide) (by decide) (show 1 ≤ 600054 by decide) (show 32 ≤ 7292139 by decide) (len_at rfl (by decide)) rfl rfl (mx_da t_X11_init 71 rfl) rfl ?_
  rw [nm_new (k := 74) (N := 32) (a := 600054) (b := 7292139) (a2 := 600053) (b2 := 7292107) rfl (by decide) rfl rfl]
  show mx_W _ _ 138 [.ref 58] [.ref 75, .ref 58] (nmT 75 In_105 Jn_77 Rn_148 600053 7292107 (L, xs)) _
  refine mx_putFR (ci := 10) (j := 35) _ rfl (by decide) ifl_RX11_63 rfl rfl rfl rfl (shp_at rfl (by decide) rfl) (by rw [len_at (k := 75) rfl (by decide)]; decide) (mx_da t_X11_init 72 rfl) rfl ?_
  show mx_W _ _ 141 [.ref 58] [] (nmT 75 In_105 Jn_77 Rn_149 600053 7292107 (L, xs)) _
  refine mx_aload_n 0 (mx_da t_X11_init 73 rfl) rfl rfl rfl rfl ?_
  refine mx_iconst (v := 5) (mx_da t_X11_init 74 rfl) rfl rfl ?_
  refine mx_newA (ty := .int) 75 5 rfl (Or.inl rfl) iac_int (by decide) (by decide) (by decide) (show 1 ≤ 600053 by decide) (show 5 ≤ 7292107 by decide) (len_at rfl (by decide)) rfl rfl (mx_da t_X11_init 75 rfl) rfl ?_
  rw [nm_new (k := 75) (N := 5) (a := 600053) (b := 7292107) (a2 := 600052) (b2 := 7292102) rfl (by decide) rfl rfl]
  show mx_W _ _ 145 [.ref 58] [.ref 76, .ref 58] (nmT 76 In_106 Jn_78 Rn_150 600052 7292102 (L, xs)) _
  refine mx_putFR (ci := 10) (j := 36) _ rfl (by decide) ifl_RX11_66 rfl rfl rfl rfl (shp_at rfl (by decide) rfl) (by rw [len_at (k := 76) rfl (by decide)]; decide) (mx_da t_X11_init 76 rfl) rfl ?_
  show mx_W _ _ 148 [.ref 58] [] (nmT 76 In_106 Jn_78 Rn_151 600052 7292102 (L, xs)) _
  refine mx_aload_n 0 (mx_da t_X11_init 77 rfl) rfl rfl rfl rfl ?_
  refine mx_iconst (v := 5) (mx_da t_X11_init 78 rfl) rfl rfl ?_
  refine mx_newA (ty := .int) 76 5 rfl (Or.inl rfl) iac_int (by decide) (by decide) (by decide) (show 1 ≤ 600052 by decide) (show 5 ≤ 7292102 by decide) (len_at rfl (by decide)) rfl rfl (mx_da t_X11_init 79 rfl) rfl ?_
  rw [nm_new (k := 76) (N := 5) (a := 600052) (b := 7292102) (a2 := 600051) (b2 := 7292097) rfl (by decide) rfl rfl]
  show mx_W _ _ 152 [.ref 58] [.ref 77, .ref 58] (nmT 77 In_107 Jn_79 Rn_152 600051 7292097 (L, xs)) _
  refine mx_putFR (ci := 10) (j := 37) _ rfl (by decide) ifl_RX11_69 rfl rfl rfl rfl (shp_at rfl (by decide) rfl) (by rw [len_at (k := 77) rfl (by decide)]; decide) (mx_da t_X11_init 80 rfl) rfl ?_
  show mx_W _ _ 155 [.ref 58] [] (nmT 77 In_107 Jn_79 Rn_153 600051 7292097 (L, xs)) _
  refine mx_aload_n 0 (mx_da t_X11_init 81 rfl) rfl rfl rfl rfl ?_
  refine mx_iconst (v := 5) (mx_da t_X11_init 82 rfl) rfl rfl ?_
  refine mx_newA (ty := .int) 77 5 rfl (Or.inl rfl) iac_int (by decide) (by decide) (by decide) (show 1 ≤ 600051 by decide) (show 5 ≤ 7292097 by decide) (len_at rfl (by decide)) rfl rfl (mx_da t_X11_init 83 rfl) rfl ?_
  rw [nm_new (k := 77) (N := 5) (a := 600051) (b := 7292097) (a2 := 600050) (b2 := 7292092) rfl (by decide) rfl rfl]
  show mx_W _ _ 159 [.ref 58] [.ref 78, .ref 58] (nmT 78 In_108 Jn_80 Rn_154 600050 7292092 (L, xs)) _
  refine mx_putFR (ci := 10) (j := 38) _ rfl (by decide) ifl_RX11_72 rfl rfl rfl rfl (shp_at rfl (by decide) rfl) (by rw [len_at (k := 78) rfl (by decide)]; decide) (mx_da t_X11_init 84 rfl) rfl ?_
  show mx_W _ _ 162 [.ref 58] [] (nmT 78 In_108 Jn_80 Rn_155 600050 7292092 (L, xs)) _
  refine mx_aload_n 0 (mx_da t_X11_init 85 rfl) rfl rfl rfl rfl ?_
  refine mx_sipush (v := 2800) (mx_da t_X11_init 86 rfl) rfl rfl ?_
  refine mx_newA (ty := .int) 78 2800 rfl (Or.inl rfl) iac_int (by decide) (by decide) (by decide) (show 1 ≤ 600050 by decide) (show 2800 ≤ 7292092 by decide) (len_at rfl (by decide)) rfl rfl (mx_da t_X11_init 87 rfl) rfl ?_
  rw [nm_new (k := 78) (N := 2800) (a := 600050) (b := 7292092) (a2 := 600049) (b2 := 7289292) rfl (by decide) rfl rfl]
  show mx_W _ _ 168 [.ref 58] [.ref 79, .ref 58] (nmT 79 In_109 Jn_81 Rn_156 600049 7289292 (L, xs)) _
  refine mx_putFR (ci := 10) (j := 39) _ rfl (by decide) ifl_RX11_75 rfl rfl rfl rfl (shp_at rfl (by decide) rfl) (by rw [len_at (k := 79) rfl (by decide)]; decide) (mx_da t_X11_init 88 rfl) rfl ?_
  show mx_W _ _ 171 [.ref 58] [] (nmT 79 In_109 Jn_81 Rn_157 600049 7289292 (L, xs)) _
  refine mx_aload_n 0 (mx_da t_X11_init 89 rfl) rfl rfl rfl rfl ?_
  refine mx_sipush (v := 950) (mx_da t_X11_init 90 rfl) rfl rfl ?_
  refine mx_newA (ty := .int) 79 950 rfl (Or.inl rfl) iac_int (by decide) (by decide) (by decide) (show 1 ≤ 600049 by decide) (show 950 ≤ 7289292 by decide) (len_at rfl (by decide)) rfl rfl (mx_da t_X11_init 91 rfl) rfl ?_
  rw [nm_new (k := 79) (N := 950) (a := 600049) (b := 7289292) (a2 := 600048) (b2 := 7288342) rfl (by decide) rfl rfl]
  show mx_W _ _ 177 [.ref 58] [.ref 80, .ref 58] (nmT 80 In_110 Jn_82 Rn_158 600048 7288342 (L, xs)) _
  refine mx_putFR (ci := 10) (j := 40) _ rfl (by decide) ifl_RX11_78 rfl rfl rfl rfl (shp_at rfl (by decide) rfl) (by rw [len_at (k := 80) rfl (by decide)]; decide) (mx_da t_X11_init 92 rfl) rfl ?_
  show mx_W _ _ 180 [.ref 58] [] (nmT 80 In_110 Jn_82 Rn_159 600048 7288342 (L, xs)) _
  refine mx_aload_n 0 (mx_da t_X11_init 93 rfl) rfl rfl rfl rfl ?_
  refine mx_bipush (v := 40) (mx_da t_X11_init 94 rfl) rfl rfl ?_
  refine mx_newA (ty := .long) 80 40 rfl (Or.inr (Or.inl rfl)) iac_long (by decide) (by decide) (by decide) (show 1 ≤ 600048 by decide) (show 40 ≤ 7288342 by decide) (len_at rfl (by decide)) rfl rfl (mx_da t_X11_init 95 rfl) rfl ?_
  rw [nm_new (k := 80) (N := 40) (a := 600048) (b := 7288342) (a2 := 600047) (b2 := 7288302) rfl (by decide) rfl rfl]
  show mx_W _ _ 185 [.ref 58] [.ref 81, .ref 58] (nmT 81 In_111 Jn_83 Rn_160 600047 7288302 (L, xs)) _
  refine mx_putFR (ci := 10) (j := 41) _ rfl (by decide) ifl_RX11_81 rfl rfl rfl rfl (shp_at rfl (by decide) rfl) (by rw [len_at (k := 81) rfl (by decide)]; decide) (mx_da t_X11_init 96 rfl) rfl ?_
  show mx_W _ _ 188 [.ref 58] [] (nmT 81 In_111 Jn_83 Rn_161 600047 7288302 (L, xs)) _
  refine mx_aload_n 0 (mx_da t_X11_init 97 rfl) rfl rfl rfl rfl ?_
  refine mx_bipush (v := 32) (mx_da t_X11_init 98 rfl) rfl rfl ?_
  refine mx_newA (ty := .long) 81 32 rfl (Or.inr (Or.inl rfl)) iac_long (by decide) (by decide) (by decide) (show 1 ≤ 600047 by decide) (show 32 ≤ 7288302 by decide) (len_at rfl (by decide)) rfl rfl (mx_da t_X11_init 99 rfl) rfl ?_
  rw [nm_new (k := 81) (N := 32) (a := 600047) (b := 7288302) (a2 := 600046) (b2 := 7288270) rfl (by decide) rfl rfl]
  show mx_W _ _ 193 [.ref 58] [.ref 82, .ref 58] (nmT 82 In_112 Jn_84 Rn_162 600046 7288270 (L, xs)) _
  refine mx_putFR (ci := 10) (j := 42) _ rfl (by decide) ifl_RX11_84 rfl rfl rfl rfl (shp_at rfl (by decide) rfl) (by rw [len_at (k := 82) rfl (by decide)]; decide) (mx_da t_X11_init 100 rfl) rfl ?_
  show mx_W _ _ 196 [.ref 58] [] (nmT 82 In_112 Jn_84 Rn_163 600046 7288270 (L, xs)) _
  refine mx_aload_n 0 (mx_da t_X11_init 101 rfl) rfl rfl rfl rfl ?_
  refine mx_bipush (v := 32) (mx_da t_X11_init 102 rfl) rfl rfl ?_
  refine mx_newA (ty := .long) 82 32 rfl (Or.inr (Or.inl rfl)) iac_long (by decide) (by decide) (by decide) (show 1 ≤ 600046 by decide) (show 32 ≤ 7288270 by decide) (len_at rfl (by decide)) rfl rfl (mx_da t_X11_init 103 rfl) rfl ?_
  rw [nm_new (k := 82) (N := 32) (a := 600046) (b := 7288270) (a2 := 600045) (b2 := 7288238) rfl (by decide) rfl rfl]
  show mx_W _ _ 201 [.ref 58] [.ref 83, .ref 58] (nmT 83 In_113 Jn_85 Rn_164 600045 7288238 (L, xs)) _
  refine mx_putFR (ci := 10) (j := 43) _ rfl (by decide) ifl_RX11_87 rfl rfl rfl rfl (shp_at rfl (by decide) rfl) (by rw [len_at (k := 83) rfl (by decide)]; decide) (mx_da t_X11_init 104 rfl) rfl ?_
  show mx_W _ _ 204 [.ref 58] [] (nmT 83 In_113 Jn_85 Rn_165 600045 7288238 (L, xs)) _
  refine mx_aload_n 0 (mx_da t_X11_init 105 rfl) rfl rfl rfl rfl ?_
  refine mx_bipush (v := 9) (mx_da t_X11_init 106 rfl) rfl rfl ?_
  refine mx_newA (ty := .boolean) 83 9 rfl (Or.inr (Or.inr (Or.inr rfl))) iac_boolean (by decide) (by decide) (by decide) (show 1 ≤ 600045 by decide) (show 9 ≤ 7288238 by decide) (len_at rfl (by decide)) rfl rfl (mx_da t_X11_init 107 rfl) rfl ?_
  rw [nm_new (k := 83) (N := 9) (a := 600045) (b := 7288238) (a2 := 600044) (b2 := 7288229) rfl (by decide) rfl rfl]
  show mx_W _ _ 209 [.ref 58] [.ref 84, .ref 58] (nmT 84 In_114 Jn_86 Rn_166 600044 7288229 (L, xs)) _
  refine mx_putFR (ci := 10) (j := 44) _ rfl (by decide) ifl_RX11_90 rfl rfl rfl rfl (shp_at rfl (by decide) rfl) (by rw [len_at (k := 84) rfl (by decide)]; decide) (mx_da t_X11_init 108 rfl) rfl ?_
  show mx_W _ _ 212 [.ref 58] [] (nmT 84 In_114 Jn_86 Rn_167 600044 7288229 (L, xs)) _
  refine mx_aload_n 0 (mx_da t_X11_init 109 rfl) rfl rfl rfl rfl ?_
  refine mx_bipush (v := 50) (mx_da t_X11_init 110 rfl) rfl rfl ?_
  refine mx_newA (ty := .int) 84 50 rfl (Or.inl rfl) iac_int (by decide) (by decide) (by decide) (show 1 ≤ 600044 by decide) (show 50 ≤ 7288229 by decide) (len_at rfl (by decide)) rfl rfl (mx_da t_X11_init 111 rfl) rfl ?_
  rw [nm_new (k := 84) (N := 50) (a := 600044) (b := 7288229) (a2 := 600043) (b2 := 7288179) rfl (by decide) rfl rfl]
  show mx_W _ _ 217 [.ref 58] [.ref 85, .ref 58] (nmT 85 In_115 Jn_87 Rn_168 600043 7288179 (L, xs)) _
  refine mx_putFR (ci := 10) (j := 45) _ rfl (by decide) ifl_RX11_94 rfl rfl rfl rfl (shp_at rfl (by decide) rfl) (by rw [len_at (k := 85) rfl (by decide)]; decide) (mx_da t_X11_init 112 rfl) rfl ?_
  show mx_W _ _ 220 [.ref 58] [] (nmT 85 In_115 Jn_87 Rn_169 600043 7288179 (L, xs)) _
  refine mx_aload_n 0 (mx_da t_X11_init 113 rfl) rfl rfl rfl rfl ?_
  refine mx_sipush (v := 1800) (mx_da t_X11_init 114 rfl) rfl rfl ?_
  refine mx_newA (ty := .int) 85 1800 rfl (Or.inl rfl) iac_int (by decide) (by decide) (by decide) (show 1 ≤ 600043 by decide) (show 1800 ≤ 7288179 by decide) (len_at rfl (by decide)) rfl rfl (mx_da t_X11_init 115 rfl) rfl ?_
  rw [nm_new (k := 85) (N := 1800) (a := 600043) (b := 7288179) (a2 := 600042) (b2 := 7286379) rfl (by decide) rfl rfl]
  show mx_W _ _ 226 [.ref 58] [.ref 86, .ref 58] (nmT 86 In_116 Jn_88 Rn_170 600042 7286379 (L, xs)) _
  refine mx_putFR (ci := 10) (j := 46) _ rfl (by decide) ifl_RX11_97 rfl rfl rfl rfl (shp_at rfl (by decide) rfl) (by rw [len_at (k := 86) rfl (by decide)]; decide) (mx_da t_X11_init 116 rfl) rfl ?_
  show mx_W _ _ 229 [.ref 58] [] (nmT 86 In_116 Jn_88 Rn_171 600042 7286379 (L, xs)) _
  refine mx_aload_n 0 (mx_da t_X11_init 117 rfl) rfl rfl rfl rfl ?_
  refine mx_iconst (v := 4) (mx_da t_X11_init 118 rfl) rfl rfl ?_
  refine mx_newA (ty := .long) 86 4 rfl (Or.inr (Or.inl rfl)) iac_long (by decide) (by decide) (by decide) (show 1 ≤ 600042 by decide) (show 4 ≤ 7286379 by decide) (len_at rfl (by decide)) rfl rfl (mx_da t_X11_init 119 rfl) rfl ?_
  rw [nm_new (k := 86) (N := 4) (a := 600042) (b := 7286379) (a2 := 600041) (b2 := 7286375) rfl (by decide) rfl rfl]
  show mx_W _ _ 233 [.ref 58] [.ref 87, .ref 58] (nmT 87 In_117 Jn_89 Rn_172 600041 7286375 (L, xs)) _
  refine mx_putFR (ci := 10) (j := 47) _ rfl (by decide) ifl_RX11_100 rfl rfl rfl rfl (shp_at rfl (by decide) rfl) (by rw [len_at (k := 87) rfl (by decide)]; decide) (mx_da t_X11_init 120 rfl) rfl ?_
  show mx_W _ _ 236 [.ref 58] [] (nmT 87 In_117 Jn_89 Rn_173 600041 7286375 (L, xs)) _
  refine mx_aload_n 0 (mx_da t_X11_init 121 rfl) rfl rfl rfl rfl ?_
  refine mx_iconst (v := 4) (mx_da t_X11_init 122 rfl) rfl rfl ?_
  refine mx_newA (ty := .int) 87 4 rfl (Or.inl rfl) iac_int (by decide) (by decide) (by decide) (show 1 ≤ 600041 by decide) (show 4 ≤ 7286375 by decide) (len_at rfl (by decide)) rfl rfl (mx_da t_X11_init 123 rfl) rfl ?_
  rw [nm_new (k := 87) (N := 4) (a := 600041) (b := 7286375) (a2 := 600040) (b2 := 7286371) rfl (by decide) rfl rfl]
  show mx_W _ _ 240 [.ref 58] [.ref 88, .ref 58] (nmT 88 In_118 Jn_90 Rn_174 600040 7286371 (L, xs)) _
  refine mx_putFR (ci := 10) (j := 48) _ rfl (by decide) ifl_RX11_103 rfl rfl rfl rfl (shp_at rfl (by decide) rfl) (by rw [len_at (k := 88) rfl (by decide)]; decide) (mx_da t_X11_init 124 rfl) rfl ?_
  show mx_W _ _ 243 [.ref 58] [] (nmT 88 In_118 Jn_90 Rn_175 600040 7286371 (L, xs)) _
  refine mx_aload_n 0 (mx_da t_X11_init 125 rfl) rfl rfl rfl rfl ?_
  refine mx_sipush (v := 950) (mx_da t_X11_init 126 rfl) rfl rfl ?_
  refine mx_newA (ty := .int) 88 950 rfl (Or.inl rfl) iac_int (by decide) (by decide) (by decide) (show 1 ≤ 600040 by decide) (show 950 ≤ 7286371 by decide) (len_at rfl (by decide)) rfl rfl (mx_da t_X11_init 127 rfl) rfl ?_
  rw [nm_new (k := 88) (N := 950) (a := 600040) (b := 7286371) (a2 := 600039) (b2 := 7285421) rfl (by decide) rfl rfl]
  show mx_W _ _ 249 [.ref 58] [.ref 89, .ref 58] (nmT 89 In_119 Jn_91 Rn_176 600039 7285421 (L, xs)) _
  refine mx_putFR (ci := 10) (j := 49) _ rfl (by decide) ifl_RX11_106 rfl rfl rfl rfl (shp_at rfl (by decide) rfl) (by rw [len_at (k := 89) rfl (by decide)]; decide) (mx_da t_X11_init 128 rfl) rfl ?_
  show mx_W _ _ 252 [.ref 58] [] (nmT 89 In_119 Jn_91 Rn_177 600039 7285421 (L, xs)) _
  refine mx_aload_n 0 (mx_da t_X11_init 129 rfl) rfl rfl rfl rfl ?_
  refine mx_bipush (v := 11) (mx_da t_X11_init 130 rfl) rfl rfl ?_
  refine mx_newA (ty := .int) 89 11 rfl (Or.inl rfl) iac_int (by decide) (by decide) (by decide) (show 1 ≤ 600039 by decide) (show 11 ≤ 7285421 by decide) (len_at rfl (by decide)) rfl rfl (mx_da t_X11_init 131 rfl) rfl ?_
  rw [nm_new (k := 89) (N := 11) (a := 600039) (b := 7285421) (a2 := 600038) (b2 := 7285410) rfl (by decide) rfl rfl]
  show mx_W _ _ 257 [.ref 58] [.ref 90, .ref 58] (nmT 90 In_120 Jn_92 Rn_178 600038 7285410 (L, xs)) _
  refine mx_putFR (ci := 10) (j := 50) _ rfl (by decide) ifl_RX11_109 rfl rfl rfl rfl (shp_at rfl (by decide) rfl) (by rw [len_at (k := 90) rfl (by decide)]; decide) (mx_da t_X11_init 132 rfl) rfl ?_
  show mx_W _ _ 260 [.ref 58] [] (nmT 90 In_120 Jn_92 Rn_179 600038 7285410 (L, xs)) _
  refine mx_aload_n 0 (mx_da t_X11_init 133 rfl) rfl rfl rfl rfl ?_
  refine mx_bipush (v := 11) (mx_da t_X11_init 134 rfl) rfl rfl ?_
  refine mx_newA (ty := .int) 90 11 rfl (Or.inl rfl) iac_int (by decide) (by decide) (by decide) (show 1 ≤ 600038 by decide) (show 11 ≤ 7285410 by decide) (len_at rfl (by decide)) rfl rfl (mx_da t_X11_init 135 rfl) rfl ?_
  rw [nm_new (k := 90) (N := 11) (a := 600038) (b := 7285410) (a2 := 600037) (b2 := 7285399) rfl (by decide) rfl rfl]
  show mx_W _ _ 265 [.ref 58] [.ref 91, .ref 58] (nmT 91 In_121 Jn_93 Rn_180 600037 7285399 (L, xs)) _
  refine mx_putFR (ci := 10) (j := 51) _ rfl (by decide) ifl_RX11_112 rfl rfl rfl rfl (shp_at rfl (by decide) rfl) (by rw [len_at (k := 91) rfl (by decide)]; decide) (mx_da t_X11_init 136 rfl) rfl ?_
  show mx_W _ _ 268 [.ref 58] [] (nmT 91 In_121 Jn_93 Rn_181 600037 7285399 (L, xs)) _
  refine mx_aload_n 0 (mx_da t_X11_init 137 rfl) rfl rfl rfl rfl ?_
  refine mx_sipush (v := 440) (mx_da t_X11_init 138 rfl) rfl rfl ?_
  refine mx_newA (ty := .int) 91 440 rfl (Or.inl rfl) iac_int (by decide) (by decide) (by decide) (show 1 ≤ 600037 by decide) (show 440 ≤ 7285399 by decide) (len_at rfl (by decide)) rfl rfl (mx_da t_X11_init 139 rfl) rfl ?_
  rw [nm_new (k := 91) (N := 440) (a := 600037) (b := 7285399) (a2 := 600036) (b2 := 7284959) rfl (by decide) rfl rfl]
  show mx_W _ _ 274 [.ref 58] [.ref 92, .ref 58] (nmT 92 In_122 Jn_94 Rn_182 600036 7284959 (L, xs)) _
  refine mx_putFR (ci := 10) (j := 52) _ rfl (by decide) ifl_RX11_115 rfl rfl rfl rfl (shp_at rfl (by decide) rfl) (by rw [len_at (k := 92) rfl (by decide)]; decide) (mx_da t_X11_init 140 rfl) rfl ?_
  show mx_W _ _ 277 [.ref 58] [] (nmT 92 In_122 Jn_94 Rn_183 600036 7284959 (L, xs)) _
  refine mx_aload_n 0 (mx_da t_X11_init 141 rfl) rfl rfl rfl rfl ?_
  refine mx_bipush (v := 10) (mx_da t_X11_init 142 rfl) rfl rfl ?_
  refine mx_newA (ty := .int) 92 10 rfl (Or.inl rfl) iac_int (by decide) (by decide) (by decide) (show 1 ≤ 600036 by decide) (show 10 ≤ 7284959 by decide) (len_at rfl (by decide)) rfl rfl (mx_da t_X11_init 143 rfl) rfl ?_
  rw [nm_new (k := 92) (N := 10) (a := 600036) (b := 7284959) (a2 := 600035) (b2 := 7284949) rfl (by decide) rfl rfl]
  show mx_W _ _ 282 [.ref 58] [.ref 93, .ref 58] (nmT 93 In_123 Jn_95 Rn_184 600035 7284949 (L, xs)) _
  refine mx_putFR (ci := 10) (j := 54) _ rfl (by decide) ifl_RX11_118 rfl rfl rfl rfl (shp_at rfl (by decide) rfl) (by rw [len_at (k := 93) rfl (by decide)]; decide) (mx_da t_X11_init 144 rfl) rfl ?_
  show mx_W _ _ 285 [.ref 58] [] (nmT 93 In_123 Jn_95 Rn_185 600035 7284949 (L, xs)) _
  refine mx_aload_n 0 (mx_da t_X11_init 145 rfl) rfl rfl rfl rfl ?_
  refine mx_bipush (v := 10) (mx_da t_X11_init 146 rfl) rfl rfl ?_
  refine mx_newA (ty := .int) 93 10 rfl (Or.inl rfl) iac_int (by decide) (by decide) (by decide) (show 1 ≤ 600035 by decide) (show 10 ≤ 7284949 by decide) (len_at rfl (by decide)) rfl rfl (mx_da t_X11_init 147 rfl) rfl ?_
  rw [nm_new (k := 93) (N := 10) (a := 600035) (b := 7284949) (a2 := 600034) (b2 := 7284939) rfl (by decide) rfl rfl]
  show mx_W _ _ 290 [.ref 58] [.ref 94, .ref 58] (nmT 94 In_124 Jn_96 Rn_186 600034 7284939 (L, xs)) _
  refine mx_putFR (ci := 10) (j := 55) _ rfl (by decide) ifl_RX11_121 rfl rfl rfl rfl (shp_at rfl (by decide) rfl) (by rw [len_at (k := 94) rfl (by decide)]; decide) (mx_da t_X11_init 148 rfl) rfl ?_
  show mx_W _ _ 293 [.ref 58] [] (nmT 94 In_124 Jn_96 Rn_187 600034 7284939 (L, xs)) _
  refine mx_aload_n 0 (mx_da t_X11_init 149 rfl) rfl rfl rfl rfl ?_
  refine mx_iconst (v := (-1)) (mx_da t_X11_init 150 rfl) rfl rfl ?_
  refine mx_putI fs_RX11_124 rfl (shp_at rfl (by decide) rfl) rfl rfl rfl (mx_da t_X11_init 151 rfl) rfl ?_
  show mx_W _ _ 298 [.ref 58] [] (nmT 94 In_125 Jn_96 Rn_187 600034 7284939 (L, xs)) _
  refine mx_aload_n 0 (mx_da t_X11_init 152 rfl) rfl rfl rfl rfl ?_
  refine mx_sipush (v := 1024) (mx_da t_X11_init 153 rfl) rfl rfl ?_
  refine mx_newA (ty := .int) 94 1024 rfl (Or.inl rfl) iac_int (by decide) (by decide) (by decide) (show 1 ≤ 600034 by decide) (show 1024 ≤ 7284939 by decide) (len_at rfl (by decide)) rfl rfl (mx_da t_X11_init 154 rfl) rfl ?_
  rw [nm_new (k := 94) (N := 1024) (a := 600034) (b := 7284939) (a2 := 600033) (b2 := 7283915) rfl (by decide) rfl rfl]
  show mx_W _ _ 304 [.ref 58] [.ref 95, .ref 58] (nmT 95 In_126 Jn_97 Rn_188 600033 7283915 (L, xs)) _
  refine mx_putFR (ci := 10) (j := 58) _ rfl (by decide) ifl_RX11_127 rfl rfl rfl rfl (shp_at rfl (by decide) rfl) (by rw [len_at (k := 95) rfl (by decide)]; decide) (mx_da t_X11_init 155 rfl) rfl ?_
  show mx_W _ _ 307 [.ref 58] [] (nmT 95 In_126 Jn_97 Rn_189 600033 7283915 (L, xs)) _
  refine mx_aload_n 0 (mx_da t_X11_init 156 rfl) rfl rfl rfl rfl ?_
  refine mx_bipush (v := 11) (mx_da t_X11_init 157 rfl) rfl rfl ?_
  refine mx_newA (ty := .int) 95 11 rfl (Or.inl rfl) iac_int (by decide) (by decide) (by decide) (show 1 ≤ 600033 by decide) (show 11 ≤ 7283915 by decide) (len_at rfl (by decide)) rfl rfl (mx_da t_X11_init 158 rfl) rfl ?_
  rw [nm_new (k := 95) (N := 11) (a := 600033) (b := 7283915) (a2 := 600032) (b2 := 7283904) rfl (by decide) rfl rfl]
  show mx_W _ _ 312 [.ref 58] [.ref 96, .ref 58] (nmT 96 In_127 Jn_98 Rn_190 600032 7283904 (L, xs)) _
  refine mx_putFR (ci := 10) (j := 62) _ rfl (by decide) ifl_RX11_130 rfl rfl rfl rfl (shp_at rfl (by decide) rfl) (by rw [len_at (k := 96) rfl (by decide)]; decide) (mx_da t_X11_init 159 rfl) rfl ?_
  show mx_W _ _ 315 [.ref 58] [] (nmT 96 In_127 Jn_98 Rn_191 600032 7283904 (L, xs)) _
  refine mx_aload_n 0 (mx_da t_X11_init 160 rfl) rfl rfl rfl rfl ?_
  refine mx_sipush (v := 440) (mx_da t_X11_init 161 rfl) rfl rfl ?_
  refine mx_newA (ty := .int) 96 440 rfl (Or.inl rfl) iac_int (by decide) (by decide) (by decide) (show 1 ≤ 600032 by decide) (show 440 ≤ 7283904 by decide) (len_at rfl (by decide)) rfl rfl (mx_da t_X11_init 162 rfl) rfl ?_
  rw [nm_new (k := 96) (N := 440) (a := 600032) (b := 7283904) (a2 := 600031) (b2 := 7283464) rfl (by decide) rfl rfl]
  show mx_W _ _ 321 [.ref 58] [.ref 97, .ref 58] (nmT 97 In_128 Jn_99 Rn_192 600031 7283464 (L, xs)) _
  refine mx_putFR (ci := 10) (j := 63) _ rfl (by decide) ifl_RX11_133 rfl rfl rfl rfl (shp_at rfl (by decide) rfl) (by rw [len_at (k := 97) rfl (by decide)]; decide) (mx_da t_X11_init 163 rfl) rfl ?_
  show mx_W _ _ 324 [.ref 58] [] (nmT 97 In_128 Jn_99 Rn_193 600031 7283464 (L, xs)) _
  exact mx_vret rfl (mx_da t_X11_init 164 rfl) k
def In_129 : Nat → Nat → Int32 := mx_zr In_128 98 0
def Jn_100 : Nat → Nat → Int64 := mx_zr Jn_99 98 0
def Rn_194 : Nat → Nat → Nat := mx_zr Rn_193 98 0
set_option maxHeartbeats 4000000 in
theorem in_law {Q : mx_O → mx_M → Prop} (L : Nat) (xs : Nat → Int32) (k : mx_W mx_law 1000 23 [.retAddr 1, .ref 1, .ref 58, .ref 98, .int 0, .retAddr 0, .retAddr 0] [] (nmT 98 In_129 Jn_100 Rn_194 600030 7283463 (L, xs)) Q) : mx_W mx_law 1000 0 (mx_ent 7 [.retAddr 1]) [] (mx_M0 L xs) Q := by
  show mx_W mx_law 1000 0 [.retAddr 1, .retAddr 0, .retAddr 0, .retAddr 0, .retAddr 0, .retAddr 0, .retAddr 0] [] (nmT 0 In_0 Jn_0 Rn_0 600128 7301098 (L, xs)) Q
  refine mx_new (ci := 9) _ 0 rfl icl_RL_8 iin_RX10 ini_RX10 (show 1 ≤ 600128 by decide) (show 17 ≤ 7301098 by decide) (len_at rfl (by decide)) rfl rfl (mx_da t_L_law_0 0 rfl) rfl ?_
  rw [nm_new (k := 0) (N := 17) (a := 600128) (b := 7301098) (a2 := 600127) (b2 := 7301081) rfl (by decide) rfl rfl]
  show mx_W mx_law 1000 3 [.retAddr 1, .retAddr 0, .retAddr 0, .retAddr 0, .retAddr 0, .retAddr 0, .retAddr 0] [.ref 1] (nmT 1 In_1 Jn_1 Rn_1 600127 7301081 (L, xs)) _
  refine mx_dup (mx_da t_L_law_0 1 rfl) rfl rfl ?_
  refine mx_callI yX10_init m_X10_init 1 mm_X10_init (Or.inl ml_RL_102) im_X10_init rfl rfl rfl (by decide) (mx_da t_L_law_0 2 rfl) rfl (by decide) (len_at rfl (by decide)) rfl rfl (in_1 L xs ⟨by rw [len_at (k := 57) rfl (by decide)]; decide, ?_⟩)
  show mx_W mx_law 1000 7 [.retAddr 1, .retAddr 0, .retAddr 0, .retAddr 0, .retAddr 0, .retAddr 0, .retAddr 0] [.ref 1] (nmT 57 In_86 Jn_59 Rn_114 600071 7295904 (L, xs)) _
  refine mx_astore_n 1 [.retAddr 1, .ref 1, .retAddr 0, .retAddr 0, .retAddr 0, .retAddr 0, .retAddr 0] (mx_da t_L_law_0 3 rfl) rfl rfl (by decide) rfl rfl rfl ?_
  refine mx_new (ci := 10) _ 57 rfl icl_RL_103 iin_RX11 ini_RX11 (show 1 ≤ 600071 by decide) (show 64 ≤ 7295904 by decide) (len_at rfl (by decide)) rfl rfl (mx_da t_L_law_0 4 rfl) rfl ?_
  rw [nm_new (k := 57) (N := 64) (a := 600071) (b := 7295904) (a2 := 600070) (b2 := 7295840) rfl (by decide) rfl rfl]
  show mx_W mx_law 1000 11 [.retAddr 1, .ref 1, .retAddr 0, .retAddr 0, .retAddr 0, .retAddr 0, .retAddr 0] [.ref 58] (nmT 58 In_87 Jn_60 Rn_115 600070 7295840 (L, xs)) _
  refine mx_dup (mx_da t_L_law_0 5 rfl) rfl rfl ?_
  refine mx_callI yX11_init m_X11_init 58 mm_X11_init (Or.inl ml_RL_105) im_X11_init rfl rfl rfl (by decide) (mx_da t_L_law_0 6 rfl) rfl (by decide) (len_at rfl (by decide)) rfl rfl (in_58 L xs ⟨by rw [len_at (k := 97) rfl (by decide)]; decide, ?_⟩)
  show mx_W mx_law 1000 15 [.retAddr 1, .ref 1, .retAddr 0, .retAddr 0, .retAddr 0, .retAddr 0, .retAddr 0] [.ref 58] (nmT 97 In_128 Jn_99 Rn_193 600031 7283464 (L, xs)) _
  refine mx_astore_n 2 [.retAddr 1, .ref 1, .ref 58, .retAddr 0, .retAddr 0, .retAddr 0, .retAddr 0] (mx_da t_L_law_0 7 rfl) rfl rfl (by decide) rfl rfl rfl ?_
  refine mx_iconst (v := 1) (mx_da t_L_law_0 8 rfl) rfl rfl ?_
  refine mx_newA (ty := .long) 97 1 rfl (Or.inr (Or.inl rfl)) iac_long (by decide) (by decide) (by decide) (show 1 ≤ 600031 by decide) (show 1 ≤ 7283464 by decide) (len_at rfl (by decide)) rfl rfl (mx_da t_L_law_0 9 rfl) rfl ?_
  rw [nm_new (k := 97) (N := 1) (a := 600031) (b := 7283464) (a2 := 600030) (b2 := 7283463) rfl (by decide) rfl rfl]
  show mx_W mx_law 1000 19 [.retAddr 1, .ref 1, .ref 58, .retAddr 0, .retAddr 0, .retAddr 0, .retAddr 0] [.ref 98] (nmT 98 In_129 Jn_100 Rn_194 600030 7283463 (L, xs)) _
  refine mx_astore_n 3 [.retAddr 1, .ref 1, .ref 58, .ref 98, .retAddr 0, .retAddr 0, .retAddr 0] (mx_da t_L_law_0 10 rfl) rfl rfl (by decide) rfl rfl rfl ?_
  refine mx_iconst (v := 0) (mx_da t_L_law_0 11 rfl) rfl rfl ?_
  refine mx_istore 4 [.retAddr 1, .ref 1, .ref 58, .ref 98, .int 0, .retAddr 0, .retAddr 0] (mx_da t_L_law_0 12 rfl) rfl (by decide) rfl ?_
  exact k
abbrev NmE (L : Nat) (xs : Nat → Int32) : mx_M := (nmT 98 In_129 Jn_100 Rn_194 600030 7283463 (L, xs))
