/-! rows as one number; the acts of the class -/
abbrev u64 (n : Nat) : Int64 := Int64.ofNat n
theorem u_of {b : Nat} (hb : b < 16) : (w b).toInt64 = u64 b := by
  have : ∀ b, b < 16 → (Int32.ofNat b).toInt64 = Int64.ofNat b := by decide
  exact this b hb
theorem u_shl {a b : Nat} (ha : a < 2 ^ 50) (hb : b < 16) : (u64 a <<< ((4 : Int32).toInt64 &&& 63)) ||| u64 b = u64 (16 * a + b) := by
  have e : (4 : Int32).toInt64 &&& 63 = 4 := by decide
  have e2 : (Int64.toBitVec 4).smod 64 = 4#64 := by decide
  rw [e, ← Int64.toBitVec_inj, Int64.toBitVec_or, Int64.toBitVec_shiftLeft]
  apply BitVec.eq_of_toNat_eq
  simp only [Int64.toBitVec_ofNat', BitVec.toNat_or, BitVec.toNat_ofNat]
  rw [e2, BitVec.shiftLeft_eq', BitVec.toNat_shiftLeft, BitVec.toNat_ofNat, BitVec.toNat_ofNat]
  have e3 : 4 % 2 ^ 64 = 4 := by decide
  rw [e3, Nat.mod_eq_of_lt (show a < 2 ^ 64 by omega), Nat.mod_eq_of_lt (show b < 2 ^ 64 by omega), Nat.shiftLeft_eq, Nat.mod_eq_of_lt (show a * 2 ^ 4 < 2 ^ 64 by omega), ← Nat.shiftLeft_eq, ← Nat.shiftLeft_add_eq_or_of_lt (show b < 2 ^ 4 by omega), Nat.shiftLeft_eq]
  omega
theorem u_shr {P k : Nat} (hP : P < 2 ^ 60) (hk : k < 64) : ((u64 P).toUInt64 >>> UInt64.ofNat k).toInt64.toInt32 &&& 15 = w (P / 2 ^ k % 16) := by
  have h0 : (u64 P).toUInt64.toNat = P := by
    show (UInt64.ofNat P).toNat = P
    rw [UInt64.toNat_ofNat']
    exact Nat.mod_eq_of_lt (by omega)
  have h1 : ((u64 P).toUInt64 >>> UInt64.ofNat k).toNat = P / 2 ^ k := by
    rw [UInt64.toNat_shiftRight, h0, UInt64.toNat_ofNat', Nat.mod_eq_of_lt (show k < 2 ^ 64 by omega), Nat.mod_eq_of_lt hk, Nat.shiftRight_eq_div_pow]
  generalize (u64 P).toUInt64 >>> UInt64.ofNat k = z at h1
  rw [← Int32.toBitVec_inj]
  apply BitVec.eq_of_toNat_eq
  rw [Int32.toBitVec_and, BitVec.toNat_and]
  have h2 : z.toInt64.toInt32.toBitVec.toNat = z.toNat % 2 ^ 32 := by
    rw [Int64.toBitVec_toInt32, BitVec.signExtend_eq_setWidth_of_le _ (by decide), BitVec.toNat_setWidth]
    rfl
  have h3 : (15 : Int32).toBitVec.toNat = 2 ^ 4 - 1 := rfl
  have h4 : (w (P / 2 ^ k % 16)).toBitVec.toNat = P / 2 ^ k % 16 := by
    show (BitVec.ofNat 32 (P / 2 ^ k % 16)).toNat = _
    rw [BitVec.toNat_ofNat]
    exact Nat.mod_eq_of_lt (by omega)
  rw [h2, h3, h4, Nat.and_two_pow_sub_one_eq_mod, h1]
  omega
theorem u_sh4 {i : Nat} (hi : i < 10) : (4 * (w i + 1)).toInt64.toUInt64 &&& Int64.toUInt64 63 = UInt64.ofNat (4 * (i + 1)) := by
  have : ∀ i, i < 10 → ((4 * (Int32.ofNat i + 1)).toInt64.toUInt64 &&& Int64.toUInt64 63) = UInt64.ofNat (4 * (i + 1)) := by decide
  exact this i hi
theorem u_low {P : Nat} (hP : P < 2 ^ 60) : (u64 P).toInt32 &&& 15 = w (P % 16) := by
  have h := u_shr (P := P) (k := 0) hP (by decide)
  rw [Nat.pow_zero, Nat.div_one] at h
  rw [← h]
  congr 2
/-- the cards of a row as one number -/
def pkN (f : Nat → Nat) : Nat → Nat → Nat
  | _, 0 => 0
  | i, k + 1 => f i + 16 * pkN f (i + 1) k
theorem pkN_lt {f : Nat → Nat} : ∀ (k i : Nat), (∀ j, i ≤ j → j < i + k → f j < 16) → pkN f i k < 16 ^ k
  | 0, i, h => (show 0 < 1 from Nat.one_pos)
  | k + 1, i, h => by
    have h1 := pkN_lt k (i + 1) (fun j a b => h j (by omega) (by omega))
    have h2 := h i (Nat.le_refl _) (by omega)
    unfold pkN
    rw [Nat.pow_succ]
    omega
theorem pkN_at {f : Nat → Nat} : ∀ (k i j : Nat), (∀ j, i ≤ j → j < i + k → f j < 16) → j < k → pkN f i k / 16 ^ j % 16 = f (i + j)
  | 0, i, j, h, hj => by omega
  | k + 1, i, j, h, hj => by
    have h2 := h i (Nat.le_refl _) (by omega)
    unfold pkN
    cases j with
    | zero =>
      show _ = f i
      rw [Nat.pow_zero, Nat.div_one]
      omega
    | succ j =>
      have h1 := pkN_at k (i + 1) j (fun j a b => h j (by omega) (by omega)) (by omega)
      rw [Nat.pow_succ, Nat.mul_comm (16 ^ j) 16, ← Nat.div_div_eq_div_mul, show (f i + 16 * pkN f (i + 1) k) / 16 = pkN f (i + 1) k by omega, h1]
      congr 1
      omega
/-- a row as one number -/
def pkR (n : Nat) (f : Nat → Nat) : Nat := 16 * pkN f 0 n + n
theorem p_packed_l {d a n N : Nat} {f : Nat → Nat} {M : mx_M} {Q : mx_O → mx_M → Prop} (T : mx_Tp M) (ha : mx_Row a) (R : rowC M a n N f) (hq : Q (.inl (some (.long (u64 (pkR n f))))) M) :
    ∀ (k : Nat), k ≤ n → mx_W m_X5_packed d 9 [.ref a, .long (u64 (pkN f k (n - k))), .retAddr 0, .int (w k - 1)] [] M Q
  | 0, hk => by
    have h10 := R.2.1
    have hl := pkN_lt (f := f) n 0 (fun j _ b => by have := R.2.2 j (by omega); omega)
    have h16 : 16 ^ n ≤ 16 ^ 10 := Nat.pow_le_pow_right (by decide) h10.1
    have e10 : 16 ^ 10 = 1099511627776 := by decide
    refine x_X5_packed_9 T a ha _ _ ⟨fun _ => ?_, fun h => absurd (by decide) h⟩
    rw [R.1, u_of (by omega), Nat.sub_zero, u_shl (by omega) (by omega)]
    exact hq
  | k + 1, hk => by
    have h10 := R.2.1
    have ho := R.2.2 k (by omega)
    have hl := pkN_lt (f := f) (n - (k + 1)) (k + 1) (fun j _ b => by have := R.2.2 j (by omega); omega)
    have h16 : 16 ^ (n - (k + 1)) ≤ 16 ^ 10 := Nat.pow_le_pow_right (by decide) (by omega)
    have e10 : 16 ^ 10 = 1099511627776 := by decide
    have e : w (k + 1) - 1 = w k := w_sub (a := k + 1) (b := 1) (by omega)
    rw [e]
    refine x_X5_packed_9 T a ha _ _ ⟨fun h => absurd h (w_pos (by omega)), fun _ => ⟨w_in (by omega) (by omega), ?_⟩⟩
    rw [w_nat (by omega), ho.1, u_of (by omega), u_shl (by omega) (by omega), show w k + (-1) = w k - 1 from (Int32.sub_eq_add_neg _ 1).symm]
    have h := p_packed_l (d := d) T ha R hq k (by omega)
    rw [show n - k = (n - (k + 1)) + 1 by omega, pkN, Nat.add_comm] at h
    exact h
theorem p_packed {d a n N : Nat} {f : Nat → Nat} {M : mx_M} {Q : mx_O → mx_M → Prop} (T : mx_Tp M) (ha : mx_Row a) (R : rowC M a n N f) (hq : Q (.inl (some (.long (u64 (pkR n f))))) M) : mx_W m_X5_packed d 0 [.ref a, .retAddr 0, .retAddr 0, .retAddr 0] [] M Q := by
  have h := p_packed_l (d := d) T ha R hq n (Nat.le_refl _)
  rw [Nat.sub_self] at h
  refine x_X5_packed_0 T a ha ?_
  rw [R.1]
  exact h
theorem pkR_lt {n N : Nat} {f : Nat → Nat} (hn : n ≤ 10) (hN : N ≤ 10) (hf : ∀ i, i < n → f i < N) : pkR n f < 2 ^ 60 := by
  have hl := pkN_lt (f := f) n 0 (fun j _ b => by have := hf j (by omega); omega)
  have h16 : 16 ^ n ≤ 16 ^ 10 := Nat.pow_le_pow_right (by decide) hn
  have e10 : 16 ^ 10 = 1099511627776 := by decide
  unfold pkR
  omega
theorem p_unpack_l {d a n N : Nat} {f : Nat → Nat} {M0 : mx_M} {Q : mx_O → mx_M → Prop} (ha : mx_Row a) (hn : n ≤ 10) (hN : N ≤ 10) (hf : ∀ i, i < n → f i < N) (hq : ∀ M1, lik (rowP a) M0 M1 → rowC M1 a n N f → Q (.inl none) M1) :
    ∀ (k i : Nat) (M : mx_M), i + k = n → mx_Tp M → lik (rowP a) M0 M → mx_I M a 1 = w n → (∀ j, j < i → mx_I M (a + 1) j = w (f j)) → mx_W m_X5_unpack (d + 1) 16 [.ref a, .long (u64 (pkR n f)), .retAddr 0, .int (w i)] [] M Q
  | 0, i, M, hi, T, L, h0, h1 => by
    refine x_X5_unpack_16 T a ha _ _ ⟨fun _ => hq M L ⟨h0, ⟨hn, hN⟩, fun j hj => ⟨h1 j (by omega), hf j hj⟩⟩, fun h => absurd ?_ h⟩
    rw [h0, w_le (by omega) (by omega)]
    omega
  | k + 1, i, M, hi, T, L, h0, h1 => by
    refine x_X5_unpack_16 T a ha _ _ ⟨fun h => ?_, fun _ => ⟨w_in (by omega) (by omega), ?_⟩⟩
    · rw [h0, w_le (by omega) (by omega)] at h
      omega
    · intro M1 e1
      have hx : pkR n f / 2 ^ (4 * (i + 1)) % 16 = f i := by
        have h := pkN_at (f := f) n 0 i (fun j _ b => by have := hf j (by omega); omega) (by omega)
        have e : (2 : Nat) ^ (4 * (i + 1)) = 16 * 16 ^ i := by
          rw [Nat.pow_mul, show (2 : Nat) ^ 4 = 16 from rfl, Nat.pow_succ, Nat.mul_comm]
        rw [e, ← Nat.div_div_eq_div_mul, show pkR n f / 16 = pkN f 0 n by unfold pkR; omega, h, Nat.zero_add]
      rw [u_sh4 (by omega), u_shr (pkR_lt hn hN hf) (by omega), hx, w_nat (by omega)] at e1
      subst e1
      rw [w_add1]
      refine p_unpack_l ha hn hN hf hq k (i + 1) _ (by omega) (tp_e rfl T) (lik_trans L (lik_setI (Or.inr rfl))) ?_ (fun j hj => ?_)
      · rw [I_ne (by omega)]; exact h0
      · by_cases g : j = i
        · rw [g, I_eq]
        · rw [I_ne (by omega)]; exact h1 j (by omega)
theorem p_unpack {d a n N : Nat} {f : Nat → Nat} {M : mx_M} {Q : mx_O → mx_M → Prop} (T : mx_Tp M) (ha : mx_Row a) (hn : n ≤ 10) (hN : N ≤ 10) (hf : ∀ i, i < n → f i < N) (hq : ∀ M1, lik (rowP a) M M1 → rowC M1 a n N f → Q (.inl none) M1) : mx_W m_X5_unpack (d + 1) 0 [.ref a, .long (u64 (pkR n f)), .retAddr 0, .retAddr 0] [] M Q := by
  refine x_X5_unpack_0 T a ha _ ?_
  rw [u_low (pkR_lt hn hN hf), show pkR n f % 16 = n by unfold pkR; omega]
  have fin : ∀ M3, M3 = mx_setI M a 1 (w n) → mx_W m_X5_unpack (d + 1) 16 [.ref a, .long (u64 (pkR n f)), .retAddr 0, .int 0] [] M3 Q := by
    intro M3 e3
    subst e3
    exact p_unpack_l ha hn hN hf hq n 0 _ (Nat.zero_add n) (tp_e rfl T) (lik_setI (Or.inl rfl)) I_eq (fun j hj => by omega)
  refine x_J9_min_7cf53_0 T _ _ ⟨fun h => ?_, fun h => ?_⟩
  · exact ⟨rfl, rfl, _, rfl, fin⟩
  · rw [show (10 : Int32) = w 10 from rfl, w_lt (by omega) (by omega)] at h
    have : n = 10 := by omega
    subst this
    exact ⟨rfl, rfl, _, rfl, fin⟩
/-- the acts that the list at a keeps: m rows, the i-th of n i cards, f i 0, f i 1, .. -/
def actC (M : mx_M) (a m : Nat) (N : Nat) (n : Nat → Nat) (f : Nat → Nat → Nat) : Prop := mx_I M a 1 = w m ∧ (m ≤ 40 ∧ N ≤ 10) ∧ ∀ i, i < m → mx_J M (a + 1) i = u64 (pkR (n i) (f i)) ∧ n i ≤ 10 ∧ ∀ j, j < n i → f i j < N
abbrev actP (a : Nat) : Nat → Prop := fun k => k = a ∨ k = a + 1
theorem actC_lik {P : Nat → Prop} {M M1 : mx_M} {a m N : Nat} {n : Nat → Nat} {f : Nat → Nat → Nat} (h : lik P M M1) (h1 : ¬ P a) (h2 : ¬ P (a + 1)) (R : actC M a m N n f) : actC M1 a m N n f := by
  refine ⟨?_, R.2.1, fun i hi => ?_⟩
  · rw [(h.2 a h1).1]; exact R.1
  · rw [(h.2 (a + 1) h2).2]; exact R.2.2 i hi
/-- one more act behind the others; of forty the oldest goes -/
def kpM (m : Nat) : Nat := if m < 40 then m + 1 else 40
def kpF {α : Type} (m : Nat) (f : Nat → α) (v : α) : Nat → α := fun i => if m < 40 then (if i = m then v else f i) else (if i = 39 then v else f (i + 1))
theorem p_keep {d a m N k : Nat} {n : Nat → Nat} {f : Nat → Nat → Nat} {g : Nat → Nat} {M : mx_M} {Q : mx_O → mx_M → Prop} (T : mx_Tp M) (ha : mx_Act a) (K : actC M a m N n f) (hk : k ≤ 10) (hg : ∀ j, j < k → g j < N)
    (hq : ∀ M1, lik (actP a) M M1 → actC M1 a (kpM m) N (kpF m n k) (kpF m f g) → Q (.inl none) M1) : mx_W m_X0_keep (d + 1) 0 [.ref a, .long (u64 (pkR k g)), .retAddr 0] [] M Q := by
  have h40 := K.2.1
  refine x_X0_keep_0 T a ha _ ?_
  rw [K.1, show (40 : Int32) = w 40 from rfl]
  refine ⟨fun h => ?_, fun h => ?_⟩
  · rw [w_lt (by omega) (by omega)] at h
    refine ⟨w_in h (by omega), ?_⟩
    intro M1 e1 M2 e2
    rw [w_nat (by omega)] at e1
    subst e1
    rw [show mx_I (mx_setJ M (a + 1) m (u64 (pkR k g))) a 1 = mx_I M a 1 from rfl, K.1, w_add1] at e2
    subst e2
    refine hq _ (lik_trans (lik_setJ (Or.inr rfl)) (lik_setI (Or.inl rfl))) ⟨?_, ⟨?_, h40.2⟩, fun i hi => ?_⟩
    · rw [I_eq]; unfold kpM; rw [if_pos h]
    · unfold kpM; split <;> omega
    · unfold kpM at hi
      rw [if_pos h] at hi
      unfold kpF
      rw [if_pos h, if_pos h]
      show mx_J (mx_setJ M (a + 1) m (u64 (pkR k g))) (a + 1) i = _ ∧ _
      by_cases e : i = m
      · rw [if_pos e, if_pos e, e, J_eq]
        exact ⟨rfl, hk, hg⟩
      · rw [if_neg e, if_neg e, J_ne (by omega)]
        exact K.2.2 i (by omega)
  · rw [w_lt (by omega) (by omega)] at h
    have hm : m = 40 := by omega
    subst hm
    intro M3 e3 M4 e4
    subst e3
    subst e4
    rw [I_eq]
    refine ⟨mx_vin rfl, ?_⟩
    intro M5 e5 M6 e6
    subst e5
    rw [show ∀ (X : mx_M) (v : Int64) (j : Nat), mx_I (mx_setJ X (a + 1) j v) a 1 = mx_I X a 1 from fun X v j => rfl, I_eq] at e6
    subst e6
    refine hq _ (lik_trans (lik_cpJ (Or.inr rfl)) (lik_trans (lik_setI (Or.inl rfl)) (lik_trans (lik_setJ (Or.inr rfl)) (lik_setI (Or.inl rfl))))) ⟨?_, ⟨?_, h40.2⟩, fun i hi => ?_⟩
    · rw [I_eq]; decide
    · decide
    · have hi : i < 40 := hi
      unfold kpF
      rw [if_neg h, if_neg h]
      show mx_J (mx_setJ (mx_setI (mx_cpJ M (a + 1) (a + 1) 1 0 39) a 1 39) (a + 1) (Int32.toNatClampNeg 39) (u64 (pkR k g))) (a + 1) i = _ ∧ _
      rw [show Int32.toNatClampNeg 39 = 39 from rfl]
      by_cases e : i = 39
      · rw [if_pos e, if_pos e, e, J_eq]
        exact ⟨rfl, hk, hg⟩
      · rw [if_neg e, if_neg e, J_ne (by omega)]
        show (if a + 1 = a + 1 then va_cpy (mx_J M (a + 1)) (mx_J M (a + 1)) 1 0 39 else mx_J M (a + 1)) i = _ ∧ _
        rw [if_pos rfl]
        unfold va_cpy
        rw [if_pos (by omega), show 1 + (i - 0) = i + 1 by omega]
        exact K.2.2 (i + 1) (by omega)
theorem p_dropLatest {d a m N : Nat} {n : Nat → Nat} {f : Nat → Nat → Nat} {M : mx_M} {Q : mx_O → mx_M → Prop} (T : mx_Tp M) (ha : mx_Act a) (K : actC M a (m + 1) N n f)
    (hq : ∀ M1, lik (actP a) M M1 → actC M1 a m N n f → Q (.inl (some (.long (u64 (pkR (n m) (f m)))))) M1) : mx_W m_X0_dropLatest d 0 [.ref a] [] M Q := by
  have h40 := K.2.1
  refine x_X0_dropLatest_0 T a ha ?_
  rw [K.1]
  refine ⟨fun _ => ?_, fun h => ?_⟩
  · intro M1 e1
    rw [show w (m + 1) - 1 = w m from w_sub (a := m + 1) (b := 1) (by omega)] at e1
    subst e1
    rw [I_eq, w_nat (by omega)]
    refine ⟨w_in (by omega) (by omega), ?_⟩
    have e : mx_J (mx_setI M a 1 (w m)) (a + 1) m = u64 (pkR (n m) (f m)) := (K.2.2 m (by omega)).1
    rw [e]
    exact hq _ (lik_setI (Or.inl rfl)) ⟨I_eq, ⟨by omega, h40.2⟩, fun i hi => K.2.2 i (by omega)⟩
  · rw [show (0 : Int32) = w 0 from rfl, w_inj (by omega) (by omega)] at h
    omega
theorem p_copyActs {d a b m N : Nat} {n : Nat → Nat} {f : Nat → Nat → Nat} {M : mx_M} {Q : mx_O → mx_M → Prop} (T : mx_Tp M) (ha : mx_Act a) (hb : mx_Act b) (hab : ¬ a = b) (K : actC M b m N n f)
    (hq : ∀ M1, lik (actP a) M M1 → actC M1 a m N n f → Q (.inl none) M1) : mx_W m_X0_copy (d + 1) 0 [.ref a, .ref b] [] M Q := by
  have h40 := K.2.1
  refine x_X0_copy_0 T a ha b hb ?_
  intro M1 e1 M2 e2
  subst e1
  subst e2
  refine hq _ (lik_trans (lik_setI (Or.inl rfl)) (lik_cpJ (Or.inr rfl))) ⟨?_, K.2.1, fun i hi => ?_⟩
  · show mx_I (mx_setI M a 1 (mx_I M b 1)) a 1 = w m
    rw [I_eq]; exact K.1
  · show (if a + 1 = a + 1 then va_cpy (mx_J M (b + 1)) (mx_J M (a + 1)) 0 0 40 else mx_J M (a + 1)) i = _ ∧ _
    rw [if_pos rfl]
    unfold va_cpy
    rw [if_pos (by omega), show 0 + (i - 0) = i by omega]
    exact K.2.2 i hi
