/-! a row of the class that is sorted -/
def setF (f : Nat → Nat) (i v : Nat) : Nat → Nat := fun k => if k = i then v else f k
theorem setF_eq {f : Nat → Nat} {i v : Nat} : setF f i v i = v := if_pos rfl
theorem setF_ne {f : Nat → Nat} {i v k : Nat} (h : ¬ k = i) : setF f i v k = f k := if_neg h
/-- c goes down from place j as far as it is ahead -/
def shF (B : Nat → Nat → Bool) (c : Nat) : Nat → (Nat → Nat) → Nat → Nat
  | 0, f => setF f 0 c
  | j + 1, f => if B c (f j) then shF B c j (setF f (j + 1) (f j)) else setF f (j + 1) c
/-- sorted by going down one after the other, from place i on (k of them) -/
def srtF (B : Nat → Nat → Bool) : Nat → Nat → (Nat → Nat) → Nat → Nat
  | _, 0, f => f
  | i, k + 1, f => srtF B (i + 1) k (shF B (f i) i f)
theorem rowC_set {M : mx_M} {a n N j v : Nat} {f : Nat → Nat} (R : rowC M a n N f) (hv : v < N) : rowC (mx_setI M (a + 1) j (w v)) a n N (setF f j v) := by
  refine ⟨?_, R.2.1, fun i hi => ?_⟩
  · rw [I_ne (by omega)]; exact R.1
  · by_cases g : i = j
    · rw [g, I_eq, setF_eq]; exact ⟨rfl, hv⟩
    · rw [I_ne (by omega), setF_ne g]; exact R.2.2 i hi
theorem row27 {a : Nat} (ha : mx_Row a) : ¬ rowP a 27 := by
  rcases ha with rfl | rfl <;> (intro h; rcases h with h | h <;> omega)
theorem p_sort_i {d a n N o c i : Nat} {B : Nat → Nat → Bool} {M0 : mx_M} {Q : mx_O → mx_M → Prop} (ha : mx_Row a) (A : ahC M0 o N B) (hc : c < N) :
    ∀ (j : Nat) (M : mx_M) (f : Nat → Nat), j < n → mx_Tp M → lik (rowP a) M0 M → rowC M a n N f →
      (∀ M1, lik (rowP a) M0 M1 → rowC M1 a n N (shF B c j f) → mx_W m_X5_sort (d + 1 + 1) 2 [.ref a, .ref 24, .int (w o), .int (w (i + 1)), .retAddr 0, .retAddr 0] [] M1 Q) →
      mx_W m_X5_sort (d + 1 + 1) 21 [.ref a, .ref 24, .int (w o), .int (w i), .int (w c), .int (w j)] [] M Q
  | 0, M, f, hj, T, L, R, X => by
    have h10 := R.2.1
    refine x_X5_sort_21 T a ha _ _ _ _ ⟨fun _ => ⟨w_in (by omega) (by omega), ?_⟩, fun h => absurd (Int32.le_refl _) h⟩
    intro M1 e1
    rw [w_nat (by omega)] at e1
    subst e1
    rw [w_add1]
    exact X _ (lik_trans L (lik_setI (Or.inr rfl))) (rowC_set R hc)
  | j + 1, M, f, hj, T, L, R, X => by
    have h10 := R.2.1
    have ho := R.2.2 j (by omega)
    have e : w (j + 1) - 1 = w j := w_sub (a := j + 1) (b := 1) (by omega)
    have e' : w (j + 1) + (-1) = w j := by rw [← e]; exact (Int32.sub_eq_add_neg _ 1).symm
    refine x_X5_sort_21 T a ha _ _ _ _ ⟨fun h => ?_, fun _ => ?_⟩
    · rw [show (0 : Int32) = w 0 from rfl, w_le (by omega) (by omega)] at h
      omega
    · rw [e, w_nat (by omega), ho.1]
      refine ⟨w_in (by omega) (by omega), p_isAhead T (ahC_lik L (row27 ha) A) hc ho.2 ⟨rfl, rfl, _, rfl, fun g => ⟨w_in (by omega) (by omega), ?_⟩, fun g => ⟨w_in (by omega) (by omega), w_in (by omega) (by omega), ?_⟩⟩⟩
      · intro M1 e1
        rw [w_nat (by omega)] at e1
        subst e1
        rw [w_add1]
        refine X _ (lik_trans L (lik_setI (Or.inr rfl))) ?_
        rw [shF, if_neg (by simp [g])]
        exact rowC_set R hc
      · intro M1 e1
        rw [w_nat (by omega), ho.1] at e1
        subst e1
        rw [e']
        refine p_sort_i ha A hc j _ (setF f (j + 1) (f j)) (by omega) (tp_e rfl T) (lik_trans L (lik_setI (Or.inr rfl))) (rowC_set R ho.2) (fun M1 L1 R1 => X M1 L1 ?_)
        rw [shF, if_pos g]
        exact R1
theorem p_sort_l {d a n N o : Nat} {B : Nat → Nat → Bool} {M0 : mx_M} {Q : mx_O → mx_M → Prop} (ha : mx_Row a) (A : ahC M0 o N B) :
    ∀ (k i : Nat) (M : mx_M) (f : Nat → Nat), 0 < i → (i + k = n ∨ (k = 0 ∧ n ≤ i)) → i < 100 → mx_Tp M → lik (rowP a) M0 M → rowC M a n N f →
      (∀ M1, lik (rowP a) M0 M1 → rowC M1 a n N (srtF B i k f) → Q (.inl none) M1) →
      mx_W m_X5_sort (d + 1 + 1) 2 [.ref a, .ref 24, .int (w o), .int (w i), .retAddr 0, .retAddr 0] [] M Q
  | 0, i, M, f, h0, hi, h1, T, L, R, X => by
    have h10 := R.2.1
    refine x_X5_sort_2 T a ha _ _ ⟨fun _ => X M L R, fun h => absurd ?_ h⟩
    rw [R.1, w_le (by omega) (by omega)]
    omega
  | k + 1, i, M, f, h0, hi, h1, T, L, R, X => by
    have h10 := R.2.1
    have ho := R.2.2 i (by omega)
    refine x_X5_sort_2 T a ha _ _ ⟨fun h => ?_, fun _ => ⟨w_in (by omega) (by omega), ?_⟩⟩
    · rw [R.1, w_le (by omega) (by omega)] at h
      omega
    · rw [w_nat (by omega), ho.1]
      exact p_sort_i ha A ho.2 i M f (by omega) T L R (fun M1 L1 R1 => p_sort_l ha A k (i + 1) M1 _ (by omega) (by omega) (by omega) (lik_T L1 (tp_of (M := M) L.1.1.symm L.1.2.1.symm T)) L1 R1 X)
theorem p_sort {d a n N o : Nat} {f : Nat → Nat} {B : Nat → Nat → Bool} {M : mx_M} {Q : mx_O → mx_M → Prop} (T : mx_Tp M) (ha : mx_Row a) (R : rowC M a n N f) (A : ahC M o N B)
    (hq : ∀ M1, lik (rowP a) M M1 → rowC M1 a n N (srtF B 1 (n - 1) f) → Q (.inl none) M1) : mx_W m_X5_sort (d + 1 + 1) 0 [.ref a, .ref 24, .int (w o), .retAddr 0, .retAddr 0, .retAddr 0] [] M Q :=
  x_X5_sort_0 T a ha _ (p_sort_l ha A (n - 1) 1 M f (by omega) (by omega) (by omega) T (lik_refl _ _) R hq)
theorem p_copyRow {d n N : Nat} {f : Nat → Nat} {M : mx_M} {Q : mx_O → mx_M → Prop} (T : mx_Tp M) (R : rowC M 31 n N f) (hq : ∀ M1, lik (rowP 33) M M1 → rowC M1 33 n N f → Q (.inl none) M1) : mx_W m_X5_copy (d + 1) 0 [.ref 33, .ref 31] [] M Q := by
  have h10 := R.2.1
  refine x_X5_copy_0 T ?_
  intro M1 e1 M2 e2
  subst e1
  subst e2
  refine hq _ (lik_trans (lik_setI (Or.inl rfl)) (lik_cpI (Or.inr rfl))) ⟨?_, R.2.1, fun i hi => ?_⟩
  · show mx_I (mx_setI M 33 1 (mx_I M 31 1)) 33 1 = w n
    rw [I_eq]; exact R.1
  · show va_cpy (mx_I (mx_setI M 33 1 (mx_I M 31 1)) 32) (mx_I (mx_setI M 33 1 (mx_I M 31 1)) 34) 0 0 10 i = w (f i) ∧ f i < N
    unfold va_cpy
    rw [if_pos (by omega), I_ne (by omega), show 0 + (i - 0) = i by omega]
    exact R.2.2 i hi
