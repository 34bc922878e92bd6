/-! the tape is fed -/
def bt (v s : Int32) : Nat := (v >>> (s &&& 31)).toBitVec.toNat % 256
theorem bt_and (x : Int32) : x &&& 255 = w (x.toBitVec.toNat % 256) := by
  apply Int32.toBitVec_inj.mp
  rw [Int32.toBitVec_and]
  apply BitVec.eq_of_toNat_eq
  rw [BitVec.toNat_and]
  show x.toBitVec.toNat &&& 255 = (BitVec.ofNat 32 (x.toBitVec.toNat % 256)).toNat
  rw [BitVec.toNat_ofNat, show (255 : Nat) = 2 ^ 8 - 1 from rfl, Nat.and_two_pow_sub_one_eq_mod]
  show x.toBitVec.toNat % 256 = x.toBitVec.toNat % 256 % 2 ^ 32
  rw [Nat.mod_eq_of_lt (a := x.toBitVec.toNat % 256)]
  exact Nat.lt_of_lt_of_le (Nat.mod_lt _ (by decide)) (by decide)
theorem bt_8 (x : Int32) : x.toInt8.toInt32 &&& 255 = x &&& 255 := by
  rw [bt_and, bt_and]
  congr 1
  rw [Int8.toBitVec_toInt32, Int32.toBitVec_toInt8]
  have h : ∀ y : BitVec 8, (y.signExtend 32).toNat % 256 = y.toNat := by decide
  rw [h, BitVec.signExtend_eq_setWidth_of_le _ (by decide), BitVec.toNat_setWidth]
theorem bt_n (x : Int32) : vp_nar .byte x.toInt8.toInt32 &&& 255 = x &&& 255 := by
  show x.toInt8.toInt32.toInt8.toInt32 &&& 255 = _
  rw [bt_8, bt_8]
theorem bt_256 (v s : Int32) : bt v s < 256 := Nat.mod_lt _ (by decide)
def fd4 (b : Nat → Nat) (T : Nat) (v : Int32) : Nat → Nat := st1 (st1 (st1 (st1 b T (bt v 24)) (T + 1) (bt v 16)) (T + 2) (bt v 8)) (T + 3) (bt v 0)
theorem tpC_add {M M1 M2 : mx_M} {TL n : Nat} {b : Nat → Nat} {x : Int32} (A : tpC M TL b) (h : TL < 700) (e1 : M1 = mx_setI M 5 TL x) (e2 : M2 = mx_setI M1 4 1 (w (TL + 1))) (hx : x &&& 255 = w n) (hn : n < 256) : tpC M2 (TL + 1) (st1 b TL n) := by
  refine ⟨by rw [e2]; exact I_eq, by omega, fun i hi => ?_⟩
  rw [e2, I_ne (by omega), e1]
  by_cases e : i = TL
  · rw [e, I_eq, st1_eq]; exact ⟨hx, hn⟩
  · rw [I_ne (by omega), st1_ne e]; exact A.2.2 i (by omega)
abbrev cD : Nat → Nat → Prop := fun k j => k = 5 ∨ (k = 4 ∧ j = 1)
theorem p_add_s {d TL : Nat} {v s s2 : Int32} {b : Nat → Nat} {M : mx_M} {Q : QQ} (T : mx_Tp M) (A : tpC M TL b) (h : TL < 700) (hs : ¬ s < 0) (es : s + (-8) = s2) (hq : ∀ M1, mx_Tp M1 → lip cD M M1 → tpC M1 (TL + 1) (st1 b TL (bt v s)) → mx_W m_X6_addNumber d 3 [.ref 4, .int v, .int s2] [] M1 Q) : mx_W m_X6_addNumber d 3 [.ref 4, .int v, .int s] [] M Q := by
  refine x_X6_addNumber_3 T _ _ ⟨fun z => absurd z hs, fun _ => ?_⟩
  rw [A.1, show (700 : Int32) = w 700 from rfl, w_le (by omega) (by omega), es, w_nat (n := TL) (by omega)]
  refine ⟨fun z => absurd z (by omega), fun _ => ⟨w_in h (by decide), fun M1 f1 M2 f2 => ?_⟩⟩
  have e : mx_I M1 4 1 = w TL := by rw [f1, I_ne (by omega)]; exact A.1
  rw [e, w_add1] at f2
  have L1 : lip cD M M1 := by rw [f1]; exact lip_setI (Or.inl rfl)
  have L2 : lip cD M1 M2 := by rw [f2]; exact lip_setI (Or.inr ⟨rfl, rfl⟩)
  have L := lip_trans L1 L2
  exact hq M2 (lip_T L T) L (tpC_add A h f1 f2 (by rw [bt_n, bt_and]; rfl) (bt_256 v s))
theorem p_add4 {d TL : Nat} {v : Int32} {b : Nat → Nat} {M : mx_M} {Q : QQ} (T : mx_Tp M) (A : tpC M TL b) (h : TL + 4 ≤ 700) (hq : ∀ M1, mx_Tp M1 → lip cD M M1 → tpC M1 (TL + 4) (fd4 b TL v) → Q (.inl none) M1) : mx_W m_X6_addNumber d 0 [.ref 4, .int v, .retAddr 0] [] M Q :=
  x_X6_addNumber_0 T _ (p_add_s (s2 := 16) T A (by omega) (by decide) (by decide) (fun M1 T1 L1 A1 => p_add_s (s2 := 8) T1 A1 (by omega) (by decide) (by decide) (fun M2 T2 L2 A2 => p_add_s (s2 := 0) T2 A2 (by omega) (by decide) (by decide) (fun M3 T3 L3 A3 => p_add_s (s2 := -8) T3 A3 (by omega) (by decide) (by decide) (fun M4 T4 L4 A4 => x_X6_addNumber_3 T4 _ _ ⟨fun _ => hq M4 T4 (lip_trans (lip_trans L1 L2) (lip_trans L3 L4)) A4, fun z => absurd (by decide) z⟩)))))
def fd5 (b : Nat → Nat) (T : Nat) (v1 v2 v3 v4 v5 : Int32) : Nat → Nat := fd4 (fd4 (fd4 (fd4 (fd4 b T v1) (T + 4) v2) (T + 8) v3) (T + 12) v4) (T + 16) v5
theorem p_feed {d t TL : Nat} {v1 v2 v3 v4 v5 : Int32} {b : Nat → Nat} {M : mx_M} {Q : QQ} (T : mx_Tp M) (ht : mx_Cat t) (ht0 : mx_R M 1 10 = t) (A : tpC M TL b) (h1 : TL + 20 ≤ 700 → ∀ M1, lip cD M M1 → tpC M1 (TL + 20) (fd5 b TL v1 v2 v3 v4 v5) → Q (.inl (some (.int (w (TL + 20))))) M1) (h2 : ¬ TL + 20 ≤ 700 → Q (.inl (some (.int (-1)))) M) : mx_W m_X10_feed (d + 1) 0 [.ref 1, .int v1, .int v2, .int v3, .int v4, .int v5] [] M Q := by
  have h7 := A.2.1
  refine x_X10_feed_0 T t ht ht0 _ _ _ _ _ (x_X6_hasRoomFor_0 T _ ?_)
  rw [A.1, show (20 : Int32) = w 20 from rfl, show (700 : Int32) = w 700 from rfl, w_add, w_lt (by omega) (by omega)]
  refine ⟨fun z => ⟨rfl, rfl, false, rfl, (fun y => by cases y), fun _ => h2 (by omega)⟩, fun z => ⟨rfl, rfl, true, rfl, fun _ => p_add4 T A (by omega) (fun M1 T1 L1 A1 => ⟨L1.1.1, L1.1.2.1, rfl, p_add4 T1 A1 (by omega) (fun M2 T2 L2 A2 => ⟨L2.1.1, L2.1.2.1, rfl, p_add4 T2 A2 (by omega) (fun M3 T3 L3 A3 => ⟨L3.1.1, L3.1.2.1, rfl, p_add4 T3 A3 (by omega) (fun M4 T4 L4 A4 => ⟨L4.1.1, L4.1.2.1, rfl, p_add4 T4 A4 (by omega) (fun M5 T5 L5 A5 => ⟨L5.1.1, L5.1.2.1, rfl, ?_⟩)⟩)⟩)⟩)⟩), fun y => by cases y⟩⟩
  rw [A5.1]
  exact h1 (by omega) M5 (lip_trans (lip_trans L1 L2) (lip_trans L3 (lip_trans L4 L5))) A5
theorem tpM_add {M M1 M2 : mx_M} {TL n : Nat} {b : Nat → Nat} {x : Int32} (A : tpM M TL b) (h : TL < 700) (e1 : M1 = mx_setI M 70 TL x) (e2 : M2 = mx_setI M1 58 15 (w (TL + 1))) (hx : x = w n) (hn : n < 256) : tpM M2 (TL + 1) (st1 b TL n) := by
  refine ⟨by rw [e2]; exact I_eq, by omega, fun i hi => ?_⟩
  rw [e2, I_ne (by omega), e1]
  by_cases e : i = TL
  · rw [e, I_eq, st1_eq]; exact ⟨hx, hn⟩
  · rw [I_ne (by omega), st1_ne e]; exact A.2.2 i (by omega)
abbrev mD : Nat → Nat → Prop := fun k j => k = 70 ∨ (k = 58 ∧ j = 15)
theorem q_add_s {d TL : Nat} {v s s2 : Int32} {b : Nat → Nat} {M : mx_M} {Q : QQ} (T : mx_Tp M) (A : tpM M TL b) (h : TL < 700) (hs : ¬ s < 0) (es : s + (-8) = s2) (hq : ∀ M1, mx_Tp M1 → lip mD M M1 → tpM M1 (TL + 1) (st1 b TL (bt v s)) → mx_W m_X11_lays d 3 [.ref 58, .int v, .int s2] [] M1 Q) : mx_W m_X11_lays d 3 [.ref 58, .int v, .int s] [] M Q := by
  refine x_X11_lays_3 T _ _ ⟨fun z => absurd z hs, fun _ => ?_⟩
  rw [A.1, es, w_nat (n := TL) (by omega)]
  refine ⟨w_in h (by decide), fun M1 f1 M2 f2 => ?_⟩
  have e : mx_I M1 58 15 = w TL := by rw [f1, I_ne (by omega)]; exact A.1
  rw [e, w_add1] at f2
  have L1 : lip mD M M1 := by rw [f1]; exact lip_setI (Or.inl rfl)
  have L2 : lip mD M1 M2 := by rw [f2]; exact lip_setI (Or.inr ⟨rfl, rfl⟩)
  have L := lip_trans L1 L2
  exact hq M2 (lip_T L T) L (tpM_add A h f1 f2 (by rw [bt_and]; rfl) (bt_256 v s))
theorem q_add4 {d TL : Nat} {v : Int32} {b : Nat → Nat} {M : mx_M} {Q : QQ} (T : mx_Tp M) (A : tpM M TL b) (h : TL + 4 ≤ 700) (hq : ∀ M1, mx_Tp M1 → lip mD M M1 → tpM M1 (TL + 4) (fd4 b TL v) → Q (.inl none) M1) : mx_W m_X11_lays d 0 [.ref 58, .int v, .retAddr 0] [] M Q :=
  x_X11_lays_0 T _ (q_add_s (s2 := 16) T A (by omega) (by decide) (by decide) (fun M1 T1 L1 A1 => q_add_s (s2 := 8) T1 A1 (by omega) (by decide) (by decide) (fun M2 T2 L2 A2 => q_add_s (s2 := 0) T2 A2 (by omega) (by decide) (by decide) (fun M3 T3 L3 A3 => q_add_s (s2 := -8) T3 A3 (by omega) (by decide) (by decide) (fun M4 T4 L4 A4 => x_X11_lays_3 T4 _ _ ⟨fun _ => hq M4 T4 (lip_trans (lip_trans L1 L2) (lip_trans L3 L4)) A4, fun z => absurd (by decide) z⟩)))))
theorem q_feed {d TL : Nat} {v1 v2 v3 v4 v5 : Int32} {b : Nat → Nat} {M : mx_M} {Q : QQ} (T : mx_Tp M) (A : tpM M TL b) (h1 : TL + 20 ≤ 700 → ∀ M1, lip mD (mx_setI M 58 0 0) M1 → tpM M1 (TL + 20) (fd5 b TL v1 v2 v3 v4 v5) → Q (.inl (some (.int (w (TL + 20))))) M1) (h2 : ¬ TL + 20 ≤ 700 → Q (.inl (some (.int (-1)))) (mx_setI M 58 0 0)) : mx_W m_X11_feed (d + 1) 0 [.ref 58, .int v1, .int v2, .int v3, .int v4, .int v5] [] M Q := by
  have h7 := A.2.1
  refine x_X11_feed_0 T _ _ _ _ _ (fun M0 e0 => ?_)
  subst e0
  have A0 : tpM (mx_setI M 58 0 0) TL b := ⟨by rw [I_ne (by omega)]; exact A.1, h7, fun i hi => by rw [I_ne (by omega)]; exact A.2.2 i hi⟩
  rw [A0.1, show (20 : Int32) = w 20 from rfl, show (700 : Int32) = w 700 from rfl, w_add, w_le (by omega) (by omega)]
  refine ⟨fun z => q_add4 (tp_e rfl T) A0 (by omega) (fun M1 T1 L1 A1 => ⟨L1.1.1, L1.1.2.1, rfl, q_add4 T1 A1 (by omega) (fun M2 T2 L2 A2 => ⟨L2.1.1, L2.1.2.1, rfl, q_add4 T2 A2 (by omega) (fun M3 T3 L3 A3 => ⟨L3.1.1, L3.1.2.1, rfl, q_add4 T3 A3 (by omega) (fun M4 T4 L4 A4 => ⟨L4.1.1, L4.1.2.1, rfl, q_add4 T4 A4 (by omega) (fun M5 T5 L5 A5 => ⟨L5.1.1, L5.1.2.1, rfl, ?_⟩)⟩)⟩)⟩)⟩), fun z => h2 z⟩
  rw [A5.1]
  exact h1 z M5 (lip_trans (lip_trans L1 L2) (lip_trans L3 (lip_trans L4 L5))) A5
